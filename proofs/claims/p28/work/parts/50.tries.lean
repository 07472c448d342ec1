set_option maxHeartbeats 8000000 in
set_option maxRecDepth 100000 in
theorem c_L_tries (xl : Launch) (D : va_G) (kA : Nat → ClassId) (ox os ob ot : Nat → Nat) (V : Nat → Nat) (m : Nat) (P : Nat → Nat) (kt : Nat) (HH : Nat → Nat → Nat) (HB : Nat → Bool) (LL : Nat → Nat → Nat) (hI : InvS (V, m, P, kt, HH, HB, LL)) (x : Int32) (u : va_W) (hc : ClsR kA ox os ob ot (V, m, P, kt, HH, HB, LL) u) (A : Nat → Prop) : Met xl yL_tries wsL_tries { frames := 8, cells := 84, slots := 1272, locals := 178 } (va_Pc [.ref (ox 0), .int x] (xPw D kA A (u ++ []))) (xQi D A (lawQ kA ox os ob ot (fun r S2 X2 => r = nI 1 ∧ ∃ kt2 HH2, S2 = (V, m, P, kt2, HH2, HB, LL) ∧ InvS S2 ∧ X2 = []))) 84 1272 A := by
  refine Met.ofW (cc := cL_tries) (maxL := 14) (ret := (some .boolean)) (by decide) rfl ?_
  intro xp xe xs xm args xbe xme xc s₁ B hml hv
  obtain ⟨rfl, hP, hN, hD, hA⟩ := hv
  have hret := B.returns
  have C : CallFix xp xm xc cL_tries 14 xs ([.ref (ox 0), .int x] : List Value).toArray wsL_tries RL := ⟨B.exec, B.bytes, hml, findClass_of_methodNamed B.named, atoms_spec (ws := wsL_tries) B.pre⟩
  have hlocks := B.notSynchronized
  obtain ⟨hx, hb, _, hown, hts⟩ := id C
  have hW : WX D kA A xs.heap ox os ob ot (V, m, P, kt, HH, HB, LL) [] xs.heap [] := ⟨u, hc, hP, hD, va_S.rf⟩
  have hl := lv_entry ([.ref (ox 0), .int x]) (n := 14) (Nat.le_of_ble_eq_true rfl)
  rw [lg_entry_eq]
  generalize (lg_sl ([.ref (ox 0), .int x]) ++ List.replicate (14 - (lg_sl ([.ref (ox 0), .int x])).length) Slot.unset).toArray = ls at hl ⊢
  have hl : lv_has ls 14 [(0, .ref (ox 0)), (1, .int x)] := hl
  have hV : V 0 ≤ 24 := hI.1.1
  have hWf : WfT (V 0) (TV V) := hI.1.2.1
  have hM : V 1 ≤ 10 := hI.1.2.2.1
  have hkt : kt ≤ 6 := hI.2.2.2.1
  have htp : trpT (V 0) (TV V) ≤ 300 := trp_le
  have hwb := wb_none hV
  have hc2 : cntN (V 0) (fun j => TV V j 1 == 2 - 1) ≤ V 0 := cn_le
  obtain ⟨ru, hru, hru2⟩ : ∃ r, loN x % (V 0 + 1) = r ∧ r ≤ V 0 := ⟨_, rfl, Nat.lt_succ_iff.mp (lo_mod (Nat.succ_pos _))⟩
  obtain ⟨se, hse, hse2⟩ : ∃ r, loN (x >>> (nI 5 &&& 31)) % 9 = r ∧ r < 9 := ⟨_, rfl, lo_mod (by decide)⟩
  obtain ⟨bw, hbw⟩ : ∃ r, (bwF V (1 + se) 5).1 = r := ⟨_, rfl⟩
  have hbw5 : bw < 5 := by rw [← hbw]; exact bw_lt
  refine lv_aload_n hx hb dL_tries_0 rfl (lv_at hl 0 rfl) ?_
  refine lv_iconst (v := nI 0) hx hb dL_tries_1 (by decide) ?_
  refine qVr C hN hA (S := (V, m, P, kt, HH, HB, LL)) (S2 := (V, m, P, kt, HH, HB, LL)) (v := nI (V 0)) (As := [.int (nI 0)]) (rest := []) (fun u A1 h => k4_count xl D kA ox os ob ot (V, m, P, kt, HH, HB, LL) u hI h (nI 0) A1) (e_count0) (cwV 1 hts gL_tries_X4_count rfl rfl rfl (by decide +kernel) ⟨Nat.le_of_ble_eq_true rfl, Nat.le_of_ble_eq_true rfl⟩) hW rfl hl.1 rfl (Nat.le_of_ble_eq_true rfl) dL_tries_2 ⟨Nat.le_of_ble_eq_true rfl, Nat.le_of_ble_eq_true rfl⟩ (fun H locs hW => ?_)
  refine lv_istore_n (lv' := [(2, .int (nI (V 0))), (0, .ref (ox 0)), (1, .int x)]) hx hb dL_tries_5 rfl hl (by decide) rfl (fun ls hl => ?_)
  refine lv_aload_n hx hb dL_tries_6 rfl (lv_at hl 1 rfl) ?_
  refine lv_bipush (v := nI 6) hx hb dL_tries_7 (by decide) ?_
  refine qVr C hN hA (S := (V, m, P, kt, HH, HB, LL)) (S2 := (V, m, P, kt, HH, HB, LL)) (v := nI (trpT (V 0) (TV V))) (As := [.int (nI 6)]) (rest := []) (fun u A1 h => k4_count xl D kA ox os ob ot (V, m, P, kt, HH, HB, LL) u hI h (nI 6) A1) (e_count6) (cwV 1 hts gL_tries_X4_count rfl rfl rfl (by decide +kernel) ⟨Nat.le_of_ble_eq_true rfl, Nat.le_of_ble_eq_true rfl⟩) hW rfl hl.1 rfl (Nat.le_of_ble_eq_true rfl) dL_tries_9 ⟨Nat.le_of_ble_eq_true rfl, Nat.le_of_ble_eq_true rfl⟩ (fun H locs hW => ?_)
  refine lv_istore_n (lv' := [(3, .int (nI (trpT (V 0) (TV V)))), (2, .int (nI (V 0))), (0, .ref (ox 0)), (1, .int x)]) hx hb dL_tries_12 rfl hl (by decide) rfl (fun ls hl => ?_)
  refine lv_iload_n hx hb dL_tries_13 rfl (lv_at hl 3 rfl) ?_
  refine lv_iload_n hx hb dL_tries_14 rfl (lv_at hl 1 rfl) ?_
  refine lv_iconst (v := nI 1) hx hb dL_tries_15 (by decide) ?_
  refine xIadd C dL_tries_16 ?_
  refine wSr0 C hN (As := [.int x, .int (nI ((V 0) + 1))]) (rest := []) (v := nI (loN x % ((V 0) + 1))) (c_L_low xl D kA x ((V 0) + 1) (by omega) (by omega)) (va_cwS 2 hts gL_tries_L_low rfl rfl rfl (by decide +kernel) ⟨Nat.le_of_ble_eq_true rfl, Nat.le_of_ble_eq_true rfl⟩) rfl hl.1 rfl (Nat.le_of_ble_eq_true rfl) dL_tries_17 ⟨Nat.le_of_ble_eq_true rfl, Nat.le_of_ble_eq_true rfl⟩ ?_
  refine xTop (y := nI ru) (by rw [hru]) ?_
  refine lv_istore (lv' := [(4, .int (nI ru)), (3, .int (nI (trpT (V 0) (TV V)))), (2, .int (nI (V 0))), (0, .ref (ox 0)), (1, .int x)]) hx hb dL_tries_20 hl (by decide) rfl (fun ls hl => ?_)
  have J22 : ∀ (k2 : Nat) (H2 : Nat → Nat → Nat) (hJ : InvS (V, m, P, k2, H2, HB, LL)) (H : Heap) (locs : List Loc) (_ : WX D kA A xs.heap ox os ob ot (V, m, P, k2, H2, HB, LL) [] H locs) (ls : Array Slot) (_ : lv_has ls 14 [(4, .int (nI ru)), (3, .int (nI (trpT (V 0) (TV V)))), (2, .int (nI (V 0))), (0, .ref (ox 0)), (1, .int x)]), W xp xl xe (headSpec wsL_tries { frames := 8, cells := 84, slots := 1272, locals := 178 }).room xs xm ([.ref (ox 0), .int x] : List Value).toArray xbe xme xc H locs (14) (212) (MQ xbe (xQi D A (lawQ kA ox os ob ot (fun r S2 X2 => r = nI 1 ∧ ∃ kt2 HH2, S2 = (V, m, P, kt2, HH2, HB, LL) ∧ InvS S2 ∧ X2 = []))) ([.ref (ox 0), .int x] : List Value).toArray xs 84 1272 A) (F0 xm 115 ls [.int (nI 1)]) := by
    intro k2 H2 hJ H locs hW ls hl
    refine lv_istore (lv' := [(7, .int (nI 1)), (4, .int (nI ru)), (3, .int (nI (trpT (V 0) (TV V)))), (2, .int (nI (V 0))), (0, .ref (ox 0)), (1, .int x)]) hx hb dL_tries_115 hl (by decide) rfl (fun ls hl => ?_)
    refine lv_aload_n hx hb dL_tries_117 rfl (lv_at hl 4 rfl) ?_
    refine qVr C hN hA (S := (V, m, P, k2, H2, HB, LL)) (S2 := (V, m, P, k2, H2, HB, LL)) (v := (wbF V (V 0)).1) (As := []) (rest := []) (fun u A1 h => k4_worstBan xl D kA ox os ob ot (V, m, P, k2, H2, HB, LL) u hJ h  A1) (e_worst) (cwV 0 hts gL_tries_X4_worstBan rfl rfl rfl (by decide +kernel) ⟨Nat.le_of_ble_eq_true rfl, Nat.le_of_ble_eq_true rfl⟩) hW rfl hl.1 rfl (Nat.le_of_ble_eq_true rfl) dL_tries_118 ⟨Nat.le_of_ble_eq_true rfl, Nat.le_of_ble_eq_true rfl⟩ (fun H locs hW => ?_)
    refine lv_istore (lv' := [(8, .int ((wbF V (V 0)).1)), (7, .int (nI 1)), (4, .int (nI ru)), (3, .int (nI (trpT (V 0) (TV V)))), (2, .int (nI (V 0))), (0, .ref (ox 0)), (1, .int x)]) hx hb dL_tries_121 hl (by decide) rfl (fun ls hl => ?_)
    have J123 : ∀ (H : Heap) (locs : List Loc) (_ : WX D kA A xs.heap ox os ob ot (V, m, P, k2, H2, HB, LL) [] H locs) (ls : Array Slot) (_ : lv_has ls 14 [(8, .int ((wbF V (V 0)).1)), (7, .int (nI 1)), (4, .int (nI ru)), (3, .int (nI (trpT (V 0) (TV V)))), (2, .int (nI (V 0))), (0, .ref (ox 0)), (1, .int x)]), W xp xl xe (headSpec wsL_tries { frames := 8, cells := 84, slots := 1272, locals := 178 }).room xs xm ([.ref (ox 0), .int x] : List Value).toArray xbe xme xc H locs (14) (212) (MQ xbe (xQi D A (lawQ kA ox os ob ot (fun r S2 X2 => r = nI 1 ∧ ∃ kt2 HH2, S2 = (V, m, P, kt2, HH2, HB, LL) ∧ InvS S2 ∧ X2 = []))) ([.ref (ox 0), .int x] : List Value).toArray xs 84 1272 A) (F0 xm 161 ls [.int (nI 1)]) := by
      intro   H locs hW ls hl
      refine lv_istore (lv' := [(7, .int (nI 1)), (8, .int ((wbF V (V 0)).1)), (4, .int (nI ru)), (3, .int (nI (trpT (V 0) (TV V)))), (2, .int (nI (V 0))), (0, .ref (ox 0)), (1, .int x)]) hx hb dL_tries_161 hl (by decide) rfl (fun ls hl => ?_)
      have J163 : ∀ (H : Heap) (locs : List Loc) (_ : WX D kA A xs.heap ox os ob ot (V, m, P, k2, H2, HB, LL) [] H locs) (ls : Array Slot) (_ : lv_has ls 14 [(7, .int (nI 1)), (8, .int ((wbF V (V 0)).1)), (4, .int (nI ru)), (3, .int (nI (trpT (V 0) (TV V)))), (2, .int (nI (V 0))), (0, .ref (ox 0)), (1, .int x)]), W xp xl xe (headSpec wsL_tries { frames := 8, cells := 84, slots := 1272, locals := 178 }).room xs xm ([.ref (ox 0), .int x] : List Value).toArray xbe xme xc H locs (14) (212) (MQ xbe (xQi D A (lawQ kA ox os ob ot (fun r S2 X2 => r = nI 1 ∧ ∃ kt2 HH2, S2 = (V, m, P, kt2, HH2, HB, LL) ∧ InvS S2 ∧ X2 = []))) ([.ref (ox 0), .int x] : List Value).toArray xs 84 1272 A) (F0 xm 245 ls []) := by
        intro   H locs hW ls hl
        refine lv_iconst (v := nI 1) hx hb dL_tries_245 (by decide) ?_
        refine lv_iload_n hx hb dL_tries_246 rfl (lv_at hl 6 rfl) ?_
        refine lv_iconst (v := nI 5) hx hb dL_tries_247 (by decide) ?_
        refine lv_ishr hx hb dL_tries_248 ?_
        refine lv_bipush (v := nI 9) hx hb dL_tries_249 (by decide) ?_
        refine wSr0 C hN (As := [.int (x >>> ((nI 5) &&& 31)), .int (nI 9)]) (rest := [.int (nI 1)]) (v := nI (loN (x >>> ((nI 5) &&& 31)) % 9)) (c_L_low xl D kA (x >>> ((nI 5) &&& 31)) 9 (by decide) (by decide)) (va_cwS 2 hts gL_tries_L_low rfl rfl rfl (by decide +kernel) ⟨Nat.le_of_ble_eq_true rfl, Nat.le_of_ble_eq_true rfl⟩) rfl hl.1 rfl (Nat.le_of_ble_eq_true rfl) dL_tries_251 ⟨Nat.le_of_ble_eq_true rfl, Nat.le_of_ble_eq_true rfl⟩ ?_
        refine xTop (y := nI se) (by rw [hse]) ?_
        refine xIadd C dL_tries_254 ?_
        refine lv_istore (lv' := [(9, .int (nI (1 + se))), (7, .int (nI 1)), (8, .int ((wbF V (V 0)).1)), (4, .int (nI ru)), (3, .int (nI (trpT (V 0) (TV V)))), (2, .int (nI (V 0))), (0, .ref (ox 0)), (1, .int x)]) hx hb dL_tries_255 hl (by decide) rfl (fun ls hl => ?_)
        refine lv_aload_n hx hb dL_tries_257 rfl (lv_at hl 6 rfl) ?_
        refine lv_iload hx hb dL_tries_258 (lv_at hl 0 rfl) ?_
        refine qVr C hN hA (S := (V, m, P, k2, H2, HB, LL)) (S2 := (V, m, P, k2, H2, HB, LL)) (v := nI bw) (As := [.int (nI (1 + se))]) (rest := []) (fun u A1 h => k4_bestWaiver xl D kA ox os ob ot (V, m, P, k2, H2, HB, LL) u hJ h (nI (1 + se)) A1) ((e_best (by omega) (by omega)).trans (by rw [hbw])) (cwV 1 hts gL_tries_X4_bestWaiver rfl rfl rfl (by decide +kernel) ⟨Nat.le_of_ble_eq_true rfl, Nat.le_of_ble_eq_true rfl⟩) hW rfl hl.1 rfl (Nat.le_of_ble_eq_true rfl) dL_tries_260 ⟨Nat.le_of_ble_eq_true rfl, Nat.le_of_ble_eq_true rfl⟩ (fun H locs hW => ?_)
        refine lv_istore (lv' := [(10, .int (nI bw)), (9, .int (nI (1 + se))), (7, .int (nI 1)), (8, .int ((wbF V (V 0)).1)), (4, .int (nI ru)), (3, .int (nI (trpT (V 0) (TV V)))), (2, .int (nI (V 0))), (0, .ref (ox 0)), (1, .int x)]) hx hb dL_tries_263 hl (by decide) rfl (fun ls hl => ?_)
        refine lv_iconst (v := (-1)) hx hb dL_tries_265 (by decide) ?_
        refine xTop (y := (moI V (1 + se) 5)) (mo_0) ?_
        refine lv_istore (lv' := [(11, .int (moI V (1 + se) 5)), (10, .int (nI bw)), (9, .int (nI (1 + se))), (7, .int (nI 1)), (8, .int ((wbF V (V 0)).1)), (4, .int (nI ru)), (3, .int (nI (trpT (V 0) (TV V)))), (2, .int (nI (V 0))), (0, .ref (ox 0)), (1, .int x)]) hx hb dL_tries_266 hl (by decide) rfl (fun ls hl => ?_)
        have J268 : ∀ (k2 : Nat) (H2 : Nat → Nat → Nat) (hJ : InvS (V, m, P, k2, H2, HB, LL)) (H : Heap) (locs : List Loc) (_ : WX D kA A xs.heap ox os ob ot (V, m, P, k2, H2, HB, LL) [] H locs) (ls : Array Slot) (_ : lv_has ls 14 [(10, .int (nI bw)), (9, .int (nI (1 + se))), (7, .int (nI 1)), (8, .int ((wbF V (V 0)).1)), (4, .int (nI ru)), (3, .int (nI (trpT (V 0) (TV V)))), (2, .int (nI (V 0))), (0, .ref (ox 0)), (1, .int x)]), W xp xl xe (headSpec wsL_tries { frames := 8, cells := 84, slots := 1272, locals := 178 }).room xs xm ([.ref (ox 0), .int x] : List Value).toArray xbe xme xc H locs (84) (1272) (MQ xbe (xQi D A (lawQ kA ox os ob ot (fun r S2 X2 => r = nI 1 ∧ ∃ kt2 HH2, S2 = (V, m, P, kt2, HH2, HB, LL) ∧ InvS S2 ∧ X2 = []))) ([.ref (ox 0), .int x] : List Value).toArray xs 84 1272 A) (F0 xm 394 ls []) := by
          intro k2 H2 hJ H locs hW ls hl
          refine lv_iload hx hb dL_tries_394 (lv_at hl 2 rfl) ?_
          refine xIfEq C (tgt := 424) (by decide) dL_tries_396 (by decide) (fun h_396 => ?_) (fun h_396 => ?_)
          · exact absurd h_396 (by decide)
          · skip
            refine lv_iload hx hb dL_tries_399 (lv_at hl 0 rfl) ?_
            refine xIfLt C (tgt := 424) (by omega) dL_tries_401 (by decide) ?_
            refine lv_iload hx hb dL_tries_404 (lv_at hl 0 rfl) ?_
            refine lv_iconst (v := nI 5) hx hb dL_tries_406 (by decide) ?_
            refine xIcmpGe C (tgt := 424) (by omega) (by decide) dL_tries_407 (by decide) (fun h_407 => ?_) (fun h_407 => ?_)
            · exfalso; omega
            · skip
              refine lv_aload_n hx hb dL_tries_410 rfl (lv_at hl 7 rfl) ?_
              refine lv_bipush (v := nI 6) hx hb dL_tries_411 (by decide) ?_
              refine qVr C hN hA (S := (V, m, P, k2, H2, HB, LL)) (S2 := (V, m, P, k2, H2, HB, LL)) (v := nI (trpT (V 0) (TV V))) (As := [.int (nI 6)]) (rest := []) (fun u A1 h => k4_count xl D kA ox os ob ot (V, m, P, k2, H2, HB, LL) u hJ h (nI 6) A1) (e_count6) (cwV 1 hts gL_tries_X4_count rfl rfl rfl (by decide +kernel) ⟨Nat.le_of_ble_eq_true rfl, Nat.le_of_ble_eq_true rfl⟩) hW rfl hl.1 rfl (Nat.le_of_ble_eq_true rfl) dL_tries_413 ⟨Nat.le_of_ble_eq_true rfl, Nat.le_of_ble_eq_true rfl⟩ (fun H locs hW => ?_)
              refine lv_iload_n hx hb dL_tries_416 rfl (lv_at hl 5 rfl) ?_
              refine xIcmpNe C (tgt := 424) (by omega) (by omega) dL_tries_417 (by decide) (fun h_417 => ?_) (fun h_417 => ?_)
              · exact absurd rfl h_417
              · skip
                refine lv_iconst (v := nI 1) hx hb dL_tries_420 (by decide) ?_
                refine lv_goto (tgt := 425) hx hb dL_tries_421 (by decide) ?_
                exact wRetZ hx hb hret (v := nI 1) (xNar1) (⟨rfl, _, _, rfl, hJ, rfl⟩) hW dL_tries_425 hlocks
        refine lv_iconst (v := nI 4) hx hb dL_tries_268 (by decide) ?_
        refine xTop (y := (nI 5 - nI 1)) (by decide +kernel) ?_
        refine lv_istore (lv' := [(12, .int (nI 5 - nI 1)), (11, .int (moI V (1 + se) 5)), (10, .int (nI bw)), (9, .int (nI (1 + se))), (7, .int (nI 1)), (8, .int ((wbF V (V 0)).1)), (4, .int (nI ru)), (3, .int (nI (trpT (V 0) (TV V)))), (2, .int (nI (V 0))), (0, .ref (ox 0)), (1, .int x)]) hx hb dL_tries_269 hl (by decide) rfl (fun ls hl => ?_)
        have L271 : ∀ (fuel : Nat), ∀ (e : Nat) (k2 : Nat) (H2 : Nat → Nat → Nat) (hmu : e < fuel) (he : e ≤ 5) (hJ : InvS (V, m, P, k2, H2, HB, LL)) (H : Heap) (locs : List Loc) (_ : WX D kA A xs.heap ox os ob ot (V, m, P, k2, H2, HB, LL) [] H locs) (ls : Array Slot) (_ : lv_has ls 14 [(12, .int (nI e - nI 1)), (11, .int (moI V (1 + se) e)), (10, .int (nI bw)), (9, .int (nI (1 + se))), (7, .int (nI 1)), (8, .int ((wbF V (V 0)).1)), (4, .int (nI ru)), (3, .int (nI (trpT (V 0) (TV V)))), (2, .int (nI (V 0))), (0, .ref (ox 0)), (1, .int x)]), W xp xl xe (headSpec wsL_tries { frames := 8, cells := 84, slots := 1272, locals := 178 }).room xs xm ([.ref (ox 0), .int x] : List Value).toArray xbe xme xc H locs (84 - 14 * e) (1272 - 212 * e) (MQ xbe (xQi D A (lawQ kA ox os ob ot (fun r S2 X2 => r = nI 1 ∧ ∃ kt2 HH2, S2 = (V, m, P, kt2, HH2, HB, LL) ∧ InvS S2 ∧ X2 = []))) ([.ref (ox 0), .int x] : List Value).toArray xs 84 1272 A) (F0 xm 271 ls []) := by
          intro fuel
          induction fuel with
          | zero => intro e k2 H2 hmu; exact absurd hmu (Nat.not_lt_zero _)
          | succ fuel ih271 =>
            intro e k2 H2 hmu he hJ H locs hW ls hl
            refine lv_iload hx hb dL_tries_271 (lv_at hl 0 rfl) ?_
            refine lv_if_lt (tgt := 394) hx hb dL_tries_273 (by decide) (fun h_273 => ?_) (fun h_273 => ?_)
            · skip
              have e0 : e = 0 := top_1 he h_273
              refine W.widen (k := 84) (n := 1272) (by omega) (by omega) ?_
              exact J268 k2 H2 hJ _ _ hW _ (lv_sub hl [2, 3, 4, 5, 6, 7, 8, 9, 10] rfl)
            · skip
              have he1 : 1 ≤ e := top_2 h_273
              rw [pk_sub he1] at hl
              have htw := tw_le (V := V) (z := 1 + se) (l := e - 1)
              have hnow := tw_now (V := V) (z := 1 + se) (l := e - 1) hWf (by omega) (by omega)
              refine lv_iload hx hb dL_tries_276 (lv_at hl 4 rfl) ?_
              refine xIfEq C (tgt := 394) (by decide) dL_tries_278 (by decide) (fun h_278 => ?_) (fun h_278 => ?_)
              · exact absurd h_278 (by decide)
              · skip
                refine lv_iload_n hx hb dL_tries_281 rfl (lv_at hl 8 rfl) ?_
                refine lv_bipush (v := nI 24) hx hb dL_tries_282 (by decide) ?_
                refine xIcmpGe C (tgt := 394) (by omega) (by decide) dL_tries_284 (by decide) (fun h_284 => ?_) (fun h_284 => ?_)
                · skip
                  refine W.widen (k := 84) (n := 1272) (by omega) (by omega) ?_
                  exact J268 k2 H2 hJ _ _ hW _ (lv_sub hl [2, 3, 4, 5, 6, 7, 8, 9, 10] rfl)
                · skip
                  refine lv_aload_n hx hb dL_tries_287 rfl (lv_at hl 9 rfl) ?_
                  refine lv_iload hx hb dL_tries_288 (lv_at hl 0 rfl) ?_
                  refine lv_iconst (v := nI 2) hx hb dL_tries_290 (by decide) ?_
                  refine lv_iconst (v := nI 5) hx hb dL_tries_291 (by decide) ?_
                  refine lv_bipush (v := nI 6) hx hb dL_tries_292 (by decide) ?_
                  refine lv_iload hx hb dL_tries_294 (lv_at hl 3 rfl) ?_
                  have he_296 : opAdd (V, m, P, k2, H2, HB, LL) (nI (e - 1)) (nI 2) (nI 5) (nI 6) (nI (1 + se)) = (nI (V 0), psS V (addV V (e - 1) 2 5 6 (1 + se)) m P k2 H2 HB LL) := e_add (by omega) (by decide) (by omega) (by decide) (by decide) (by omega) (by omega)
                  have hI_296 : InvS (psS V (addV V (e - 1) 2 5 6 (1 + se)) m P k2 H2 HB LL) := inv_of (i_add hJ) he_296
                  refine qV C hN hA (S := (V, m, P, k2, H2, HB, LL)) (S2 := (psS V (addV V (e - 1) 2 5 6 (1 + se)) m P k2 H2 HB LL)) (v := nI (V 0)) (As := [.int (nI (e - 1)), .int (nI 2), .int (nI 5), .int (nI 6), .int (nI (1 + se))]) (rest := []) (fun u A1 h => k4_add xl D kA ox os ob ot (V, m, P, k2, H2, HB, LL) u hJ h (nI (e - 1)) (nI 2) (nI 5) (nI 6) (nI (1 + se)) A1) (he_296) (cwV 5 hts gL_tries_X4_add rfl rfl rfl (by decide +kernel) ⟨Nat.le_of_ble_eq_true rfl, Nat.le_of_ble_eq_true rfl⟩) hW rfl hl.1 rfl (Nat.le_of_ble_eq_true rfl) dL_tries_296 ⟨(show (84 - 14 * e) + 14 ≤ 84 by omega), (show (1272 - 212 * e) + 212 ≤ 1272 by omega)⟩ (fun H locs hW => ?_)
                  refine lv_iload_n hx hb dL_tries_299 rfl (lv_at hl 8 rfl) ?_
                  refine xIcmpNe C (tgt := 307) (by omega) (by omega) dL_tries_300 (by decide) (fun h_300 => ?_) (fun h_300 => ?_)
                  · exact absurd rfl h_300
                  · skip
                    refine lv_iconst (v := nI 1) hx hb dL_tries_303 (by decide) ?_
                    refine lv_goto (tgt := 308) hx hb dL_tries_304 (by decide) ?_
                    refine lv_istore (lv' := [(7, .int (nI 1)), (12, .int (nI (e - 1))), (11, .int (moI V (1 + se) e)), (10, .int (nI bw)), (9, .int (nI (1 + se))), (8, .int ((wbF V (V 0)).1)), (4, .int (nI ru)), (3, .int (nI (trpT (V 0) (TV V)))), (2, .int (nI (V 0))), (0, .ref (ox 0)), (1, .int x)]) hx hb dL_tries_308 hl (by decide) rfl (fun ls hl => ?_)
                    refine lv_aload_n hx hb dL_tries_310 rfl (lv_at hl 9 rfl) ?_
                    refine lv_bipush (v := nI 6) hx hb dL_tries_311 (by decide) ?_
                    refine qVr C hN hA (S := (psS V (addV V (e - 1) 2 5 6 (1 + se)) m P k2 H2 HB LL)) (S2 := (psS V (addV V (e - 1) 2 5 6 (1 + se)) m P k2 H2 HB LL)) (v := nI (tw V (1 + se) (e - 1))) (As := [.int (nI 6)]) (rest := []) (fun u A1 h => k4_count xl D kA ox os ob ot (psS V (addV V (e - 1) 2 5 6 (1 + se)) m P k2 H2 HB LL) u hI_296 h (nI 6) A1) (e_count6.trans (by rw [add_tw])) (cwV 1 hts gL_tries_X4_count rfl rfl rfl (by decide +kernel) ⟨Nat.le_of_ble_eq_true rfl, Nat.le_of_ble_eq_true rfl⟩) hW rfl hl.1 rfl (Nat.le_of_ble_eq_true rfl) dL_tries_313 ⟨(show 84 - 14 * e + 14 ≤ 84 by omega), (show 1272 - 212 * e + 212 ≤ 1272 by omega)⟩ (fun H locs hW => ?_)
                    refine lv_istore (lv' := [(13, .int (nI (tw V (1 + se) (e - 1)))), (7, .int (nI 1)), (12, .int (nI (e - 1))), (11, .int (moI V (1 + se) e)), (10, .int (nI bw)), (9, .int (nI (1 + se))), (8, .int ((wbF V (V 0)).1)), (4, .int (nI ru)), (3, .int (nI (trpT (V 0) (TV V)))), (2, .int (nI (V 0))), (0, .ref (ox 0)), (1, .int x)]) hx hb dL_tries_316 hl (by decide) rfl (fun ls hl => ?_)
                    refine lv_iload hx hb dL_tries_318 (lv_at hl 1 rfl) ?_
                    refine xIfEq C (tgt := 381) (by decide) dL_tries_320 (by decide) (fun h_320 => ?_) (fun h_320 => ?_)
                    · exact absurd h_320 (by decide)
                    · skip
                      have J323 : ∀ (H : Heap) (locs : List Loc) (_ : WX D kA A xs.heap ox os ob ot (psS V (addV V (e - 1) 2 5 6 (1 + se)) m P k2 H2 HB LL) [] H locs) (ls : Array Slot) (_ : lv_has ls 14 [(13, .int (nI (tw V (1 + se) (e - 1)))), (7, .int (nI 1)), (12, .int (nI (e - 1))), (11, .int (moI V (1 + se) e)), (10, .int (nI bw)), (9, .int (nI (1 + se))), (8, .int ((wbF V (V 0)).1)), (4, .int (nI ru)), (3, .int (nI (trpT (V 0) (TV V)))), (2, .int (nI (V 0))), (0, .ref (ox 0)), (1, .int x)]), W xp xl xe (headSpec wsL_tries { frames := 8, cells := 84, slots := 1272, locals := 178 }).room xs xm ([.ref (ox 0), .int x] : List Value).toArray xbe xme xc H locs (84 - 14 * e + 14) (1272 - 212 * e + 212) (MQ xbe (xQi D A (lawQ kA ox os ob ot (fun r S2 X2 => r = nI 1 ∧ ∃ kt2 HH2, S2 = (V, m, P, kt2, HH2, HB, LL) ∧ InvS S2 ∧ X2 = []))) ([.ref (ox 0), .int x] : List Value).toArray xs 84 1272 A) (F0 xm 335 ls []) := by
                        intro   H locs hW ls hl
                        have J335 : ∀ (H : Heap) (locs : List Loc) (_ : WX D kA A xs.heap ox os ob ot (psS V (addV V (e - 1) 2 5 6 (1 + se)) m P k2 H2 HB LL) [] H locs) (ls : Array Slot) (_ : lv_has ls 14 [(13, .int (nI (tw V (1 + se) (e - 1)))), (7, .int (nI 1)), (12, .int (nI (e - 1))), (11, .int (moI V (1 + se) e)), (10, .int (nI bw)), (9, .int (nI (1 + se))), (8, .int ((wbF V (V 0)).1)), (4, .int (nI ru)), (3, .int (nI (trpT (V 0) (TV V)))), (2, .int (nI (V 0))), (0, .ref (ox 0)), (1, .int x)]), W xp xl xe (headSpec wsL_tries { frames := 8, cells := 84, slots := 1272, locals := 178 }).room xs xm ([.ref (ox 0), .int x] : List Value).toArray xbe xme xc H locs (84 - 14 * e + 14) (1272 - 212 * e + 212) (MQ xbe (xQi D A (lawQ kA ox os ob ot (fun r S2 X2 => r = nI 1 ∧ ∃ kt2 HH2, S2 = (V, m, P, kt2, HH2, HB, LL) ∧ InvS S2 ∧ X2 = []))) ([.ref (ox 0), .int x] : List Value).toArray xs 84 1272 A) (F0 xm 356 ls []) := by
                          intro   H locs hW ls hl
                          have J356 : ∀ (H : Heap) (locs : List Loc) (_ : WX D kA A xs.heap ox os ob ot (psS V (addV V (e - 1) 2 5 6 (1 + se)) m P k2 H2 HB LL) [] H locs) (ls : Array Slot) (_ : lv_has ls 14 [(13, .int (nI (tw V (1 + se) (e - 1)))), (7, .int (nI 1)), (12, .int (nI (e - 1))), (11, .int (moI V (1 + se) e)), (10, .int (nI bw)), (9, .int (nI (1 + se))), (8, .int ((wbF V (V 0)).1)), (4, .int (nI ru)), (3, .int (nI (trpT (V 0) (TV V)))), (2, .int (nI (V 0))), (0, .ref (ox 0)), (1, .int x)]), W xp xl xe (headSpec wsL_tries { frames := 8, cells := 84, slots := 1272, locals := 178 }).room xs xm ([.ref (ox 0), .int x] : List Value).toArray xbe xme xc H locs (84 - 14 * e + 14) (1272 - 212 * e + 212) (MQ xbe (xQi D A (lawQ kA ox os ob ot (fun r S2 X2 => r = nI 1 ∧ ∃ kt2 HH2, S2 = (V, m, P, kt2, HH2, HB, LL) ∧ InvS S2 ∧ X2 = []))) ([.ref (ox 0), .int x] : List Value).toArray xs 84 1272 A) (F0 xm 370 ls []) := by
                            intro   H locs hW ls hl
                            refine lv_aload_n hx hb dL_tries_370 rfl (lv_at hl 10 rfl) ?_
                            have he_371 : opUndo (psS V (addV V (e - 1) 2 5 6 (1 + se)) m P k2 H2 HB LL)  = (nI (pushN k2 - 1), (V, m, P, pushN k2 - 1, pushH H2 k2 V, HB, LL)) := e_undo hJ.2.2.2.1
                            have hI_371 : InvS (V, m, P, pushN k2 - 1, pushH H2 k2 V, HB, LL) := inv_of (i_undo hI_296) he_371
                            refine qVr C hN hA (S := (psS V (addV V (e - 1) 2 5 6 (1 + se)) m P k2 H2 HB LL)) (S2 := (V, m, P, pushN k2 - 1, pushH H2 k2 V, HB, LL)) (v := nI (pushN k2 - 1)) (As := []) (rest := []) (fun u A1 h => k4_undo xl D kA ox os ob ot (psS V (addV V (e - 1) 2 5 6 (1 + se)) m P k2 H2 HB LL) u hI_296 h  A1) (he_371) (cwV 0 hts gL_tries_X4_undo rfl rfl rfl (by decide +kernel) ⟨Nat.le_of_ble_eq_true rfl, Nat.le_of_ble_eq_true rfl⟩) hW rfl hl.1 rfl (Nat.le_of_ble_eq_true rfl) dL_tries_371 ⟨(show 84 - 14 * e + 14 ≤ 84 by omega), (show 1272 - 212 * e + 212 ≤ 1272 by omega)⟩ (fun H locs hW => ?_)
                            refine xIfLt C (tgt := 381) (ps_lt hJ.2.2.2.1) dL_tries_374 (by decide) ?_
                            refine lv_iconst (v := nI 1) hx hb dL_tries_377 (by decide) ?_
                            refine lv_goto (tgt := 382) hx hb dL_tries_378 (by decide) ?_
                            refine lv_istore (lv' := [(7, .int (nI 1)), (13, .int (nI (tw V (1 + se) (e - 1)))), (12, .int (nI (e - 1))), (11, .int (moI V (1 + se) e)), (10, .int (nI bw)), (9, .int (nI (1 + se))), (8, .int ((wbF V (V 0)).1)), (4, .int (nI ru)), (3, .int (nI (trpT (V 0) (TV V)))), (2, .int (nI (V 0))), (0, .ref (ox 0)), (1, .int x)]) hx hb dL_tries_382 hl (by decide) rfl (fun ls hl => ?_)
                            refine lv_iload hx hb dL_tries_384 (lv_at hl 1 rfl) ?_
                            refine xTop (y := (moI V (1 + se) (e - 1))) (mo_s (by omega)) ?_
                            refine lv_istore (lv' := [(11, .int (moI V (1 + se) (e - 1))), (7, .int (nI 1)), (13, .int (nI (tw V (1 + se) (e - 1)))), (12, .int (nI (e - 1))), (10, .int (nI bw)), (9, .int (nI (1 + se))), (8, .int ((wbF V (V 0)).1)), (4, .int (nI ru)), (3, .int (nI (trpT (V 0) (TV V)))), (2, .int (nI (V 0))), (0, .ref (ox 0)), (1, .int x)]) hx hb dL_tries_386 hl (by decide) rfl (fun ls hl => ?_)
                            refine lv_iinc (v := (nI (e - 1) - nI 1)) (lv' := [(12, .int (nI (e - 1) - nI 1)), (11, .int (moI V (1 + se) (e - 1))), (7, .int (nI 1)), (13, .int (nI (tw V (1 + se) (e - 1)))), (10, .int (nI bw)), (9, .int (nI (1 + se))), (8, .int ((wbF V (V 0)).1)), (4, .int (nI ru)), (3, .int (nI (trpT (V 0) (TV V)))), (2, .int (nI (V 0))), (0, .ref (ox 0)), (1, .int x)]) hx hb dL_tries_388 hl (k := 3) rfl (im1 _) (by decide) rfl (fun ls hl => ?_)
                            refine lv_goto (tgt := 271) hx hb dL_tries_391 (by decide) ?_
                            refine W.widen (k := 84 - 14 * (e - 1)) (n := 1272 - 212 * (e - 1)) (by omega) (by omega) ?_
                            exact ih271 (e - 1) (pushN k2 - 1) (pushH H2 k2 V) (by omega) (by omega) hI_371 _ _ hW _ (lv_sub hl [0, 1, 4, 5, 2, 6, 7, 8, 9, 10, 11] rfl)
                          refine lv_iload hx hb dL_tries_356 (lv_at hl 2 rfl) ?_
                          refine lv_iload hx hb dL_tries_358 (lv_at hl 4 rfl) ?_
                          refine xIcmpNe C (tgt := 370) (by omega) (by omega) dL_tries_360 (by decide) (fun h_360 => ?_) (fun h_360 => ?_)
                          · skip
                            exact J356  _ _ hW _ (lv_sub hl [0, 1, 2, 3, 4, 5, 6, 7, 8, 9, 10, 11] rfl)
                          · skip
                            have hgt := mo_gt (V := V) (z := 1 + se) he1 he hbw h_360
                            refine lv_iload hx hb dL_tries_363 (lv_at hl 0 rfl) ?_
                            refine lv_iload hx hb dL_tries_365 (lv_at hl 3 rfl) ?_
                            refine lv_icmp_le (tgt := 381) hx hb dL_tries_367 (by decide) (fun h_367 => ?_) (fun h_367 => ?_)
                            · exact absurd h_367 hgt
                            · skip
                              exact J356  _ _ hW _ (lv_sub hl [0, 1, 2, 3, 4, 5, 6, 7, 8, 9, 10, 11] rfl)
                        refine lv_iload hx hb dL_tries_335 (lv_at hl 0 rfl) ?_
                        refine lv_iload hx hb dL_tries_337 (lv_at hl 3 rfl) ?_
                        refine lv_icmp_lt (tgt := 381) hx hb dL_tries_339 (by decide) (fun h_339 => ?_) (fun h_339 => ?_)
                        · exact absurd h_339 (mo_lt hWf (by omega) he1 he)
                        · skip
                          refine lv_iload hx hb dL_tries_342 (lv_at hl 0 rfl) ?_
                          refine lv_iload hx hb dL_tries_344 (lv_at hl 3 rfl) ?_
                          refine lv_icmp_eq (tgt := 356) hx hb dL_tries_346 (by decide) (fun h_346 => ?_) (fun h_346 => ?_)
                          · skip
                            exact J335  _ _ hW _ (lv_sub hl [0, 1, 2, 3, 4, 5, 6, 7, 8, 9, 10, 11] rfl)
                          · skip
                            have hbe := mo_ne hWf (by omega) he1 he hbw h_346
                            refine lv_iload hx hb dL_tries_349 (lv_at hl 2 rfl) ?_
                            refine lv_iload hx hb dL_tries_351 (lv_at hl 4 rfl) ?_
                            refine xIcmpLt C (tgt := 381) (by omega) (by omega) dL_tries_353 (by decide) (fun h_353 => ?_) (fun h_353 => ?_)
                            · exfalso; omega
                            · skip
                              exact J335  _ _ hW _ (lv_sub hl [0, 1, 2, 3, 4, 5, 6, 7, 8, 9, 10, 11] rfl)
                      refine lv_iload hx hb dL_tries_323 (lv_at hl 2 rfl) ?_
                      refine lv_iconst (v := nI 4) hx hb dL_tries_325 (by decide) ?_
                      refine xIcmpNe C (tgt := 335) (by omega) (by decide) dL_tries_326 (by decide) (fun h_326 => ?_) (fun h_326 => ?_)
                      · skip
                        exact J323  _ _ hW _ (lv_sub hl [0, 1, 2, 3, 4, 5, 6, 7, 8, 9, 10, 11] rfl)
                      · skip
                        refine lv_iload hx hb dL_tries_329 (lv_at hl 0 rfl) ?_
                        refine lv_iload_n hx hb dL_tries_331 rfl (lv_at hl 8 rfl) ?_
                        refine xIcmpLt C (tgt := 381) (by omega) (by omega) dL_tries_332 (by decide) (fun h_332 => ?_) (fun h_332 => ?_)
                        · exfalso; omega
                        · skip
                          exact J323  _ _ hW _ (lv_sub hl [0, 1, 2, 3, 4, 5, 6, 7, 8, 9, 10, 11] rfl)
        refine W.widen (k := 84 - 14 * 5) (n := 1272 - 212 * 5) (by omega) (by omega) ?_
        exact L271 _ 5 k2 H2 (Nat.lt_succ_self _) (by decide) hJ _ _ hW _ (lv_sub hl [0, 1, 2, 3, 4, 5, 6, 7, 8, 9, 10] rfl)
      refine lv_iconst (v := nI 0) hx hb dL_tries_163 (by decide) ?_
      refine lv_istore (lv' := [(9, .int (nI 0)), (7, .int (nI 1)), (8, .int ((wbF V (V 0)).1)), (4, .int (nI ru)), (3, .int (nI (trpT (V 0) (TV V)))), (2, .int (nI (V 0))), (0, .ref (ox 0)), (1, .int x)]) hx hb dL_tries_164 hl (by decide) rfl (fun ls hl => ?_)
      have L166 : ∀ (fuel : Nat), ∀ (k : Nat) (hmu : V 0 - k < fuel) (hk : k ≤ V 0) (H : Heap) (locs : List Loc) (_ : WX D kA A xs.heap ox os ob ot (V, m, P, k2, H2, HB, LL) [] H locs) (ls : Array Slot) (_ : lv_has ls 14 [(9, .int (nI k)), (7, .int (nI 1)), (8, .int ((wbF V (V 0)).1)), (4, .int (nI ru)), (3, .int (nI (trpT (V 0) (TV V)))), (2, .int (nI (V 0))), (0, .ref (ox 0)), (1, .int x)]), W xp xl xe (headSpec wsL_tries { frames := 8, cells := 84, slots := 1272, locals := 178 }).room xs xm ([.ref (ox 0), .int x] : List Value).toArray xbe xme xc H locs (14) (212) (MQ xbe (xQi D A (lawQ kA ox os ob ot (fun r S2 X2 => r = nI 1 ∧ ∃ kt2 HH2, S2 = (V, m, P, kt2, HH2, HB, LL) ∧ InvS S2 ∧ X2 = []))) ([.ref (ox 0), .int x] : List Value).toArray xs 84 1272 A) (F0 xm 166 ls []) := by
        intro fuel
        induction fuel with
        | zero => intro k hmu; exact absurd hmu (Nat.not_lt_zero _)
        | succ fuel ih166 =>
          intro k hmu hk H locs hW ls hl
          refine lv_iload hx hb dL_tries_166 (lv_at hl 0 rfl) ?_
          refine lv_iload_n hx hb dL_tries_168 rfl (lv_at hl 5 rfl) ?_
          refine xIcmpGe C (tgt := 245) (by omega) (by omega) dL_tries_169 (by decide) (fun h_169 => ?_) (fun h_169 => ?_)
          · skip
            exact J163  _ _ hW _ (lv_sub hl [1, 2, 3, 4, 5, 6, 7] rfl)
          · skip
            refine lv_iload hx hb dL_tries_172 (lv_at hl 1 rfl) ?_
            refine xIfEq C (tgt := 245) (by decide) dL_tries_174 (by decide) (fun h_174 => ?_) (fun h_174 => ?_)
            · exact absurd h_174 (by decide)
            · skip
              refine lv_iload hx hb dL_tries_177 (lv_at hl 2 rfl) ?_
              refine lv_bipush (v := (-6)) hx hb dL_tries_179 (by decide) ?_
              refine lv_icmp_eq (tgt := 245) hx hb dL_tries_181 (by decide) (fun h_181 => ?_) (fun h_181 => ?_)
              · skip
                exact J163  _ _ hW _ (lv_sub hl [1, 2, 3, 4, 5, 6, 7] rfl)
              · skip
                obtain ⟨wo, hwo, ewo, hmx⟩ := wb_at hV h_181
                refine lv_aload_n hx hb dL_tries_184 rfl (lv_at hl 6 rfl) ?_
                refine lv_iload hx hb dL_tries_185 (lv_at hl 0 rfl) ?_
                refine lv_iconst (v := nI 1) hx hb dL_tries_187 (by decide) ?_
                have hwk := hWf k h_169
                refine qVr C hN hA (S := (V, m, P, k2, H2, HB, LL)) (S2 := (V, m, P, k2, H2, HB, LL)) (v := nI (TV V k 1)) (As := [.int (nI k), .int (nI 1)]) (rest := []) (fun u A1 h => k4_rule xl D kA ox os ob ot (V, m, P, k2, H2, HB, LL) u hJ h (nI k) (nI 1) A1) ((e_rule hV h_169 (by decide)).trans (by rw [ru_1])) (cwV 2 hts gL_tries_X4_rule rfl rfl rfl (by decide +kernel) ⟨Nat.le_of_ble_eq_true rfl, Nat.le_of_ble_eq_true rfl⟩) hW rfl hl.1 rfl (Nat.le_of_ble_eq_true rfl) dL_tries_188 ⟨Nat.le_of_ble_eq_true rfl, Nat.le_of_ble_eq_true rfl⟩ (fun H locs hW => ?_)
                refine lv_iconst (v := nI 1) hx hb dL_tries_191 (by decide) ?_
                refine xIcmpNe C (tgt := 232) (by omega) (by decide) dL_tries_192 (by decide) (fun h_192 => ?_) (fun h_192 => ?_)
                · skip
                  refine lv_iconst (v := nI 1) hx hb dL_tries_232 (by decide) ?_
                  refine lv_goto (tgt := 237) hx hb dL_tries_233 (by decide) ?_
                  refine lv_istore (lv' := [(7, .int (nI 1)), (9, .int (nI k)), (8, .int ((wbF V (V 0)).1)), (4, .int (nI ru)), (3, .int (nI (trpT (V 0) (TV V)))), (2, .int (nI (V 0))), (0, .ref (ox 0)), (1, .int x)]) hx hb dL_tries_237 hl (by decide) rfl (fun ls hl => ?_)
                  refine xIinc C (kx := 1) (d := 1) (lv' := [(9, .int (nI (k + 1))), (7, .int (nI 1)), (8, .int ((wbF V (V 0)).1)), (4, .int (nI ru)), (3, .int (nI (trpT (V 0) (TV V)))), (2, .int (nI (V 0))), (0, .ref (ox 0)), (1, .int x)]) dL_tries_239 hl rfl (by decide) (by decide) rfl (fun ls hl => ?_)
                  refine lv_goto (tgt := 166) hx hb dL_tries_242 (by decide) ?_
                  exact ih166 (k + 1) (by omega) (by omega) _ _ hW _ (lv_sub hl [0, 1, 2, 3, 4, 5, 6, 7] rfl)
                · skip
                  obtain ⟨hm1, hm2⟩ := hmx k h_169 h_192
                  have hf1 := if_le (V := V) (i := k)
                  have hf2 := if_le (V := V) (i := wo)
                  refine lv_aload_n hx hb dL_tries_195 rfl (lv_at hl 6 rfl) ?_
                  refine lv_iload hx hb dL_tries_196 (lv_at hl 0 rfl) ?_
                  refine qVr C hN hA (S := (V, m, P, k2, H2, HB, LL)) (S2 := (V, m, P, k2, H2, HB, LL)) (v := nI (ifN V k)) (As := [.int (nI k)]) (rest := []) (fun u A1 h => k4_ifStruck xl D kA ox os ob ot (V, m, P, k2, H2, HB, LL) u hJ h (nI k) A1) (e_if hV h_169) (cwV 1 hts gL_tries_X4_ifStruck rfl rfl rfl (by decide +kernel) ⟨Nat.le_of_ble_eq_true rfl, Nat.le_of_ble_eq_true rfl⟩) hW rfl hl.1 rfl (Nat.le_of_ble_eq_true rfl) dL_tries_198 ⟨Nat.le_of_ble_eq_true rfl, Nat.le_of_ble_eq_true rfl⟩ (fun H locs hW => ?_)
                  refine lv_aload_n hx hb dL_tries_201 rfl (lv_at hl 6 rfl) ?_
                  refine lv_iload hx hb dL_tries_202 (lv_at hl 2 rfl) ?_
                  refine xTop (y := nI wo) (ewo) ?_
                  refine qVr C hN hA (S := (V, m, P, k2, H2, HB, LL)) (S2 := (V, m, P, k2, H2, HB, LL)) (v := nI (ifN V wo)) (As := [.int (nI wo)]) (rest := [.int (nI (ifN V k))]) (fun u A1 h => k4_ifStruck xl D kA ox os ob ot (V, m, P, k2, H2, HB, LL) u hJ h (nI wo) A1) (e_if hV hwo) (cwV 1 hts gL_tries_X4_ifStruck rfl rfl rfl (by decide +kernel) ⟨Nat.le_of_ble_eq_true rfl, Nat.le_of_ble_eq_true rfl⟩) hW rfl hl.1 rfl (Nat.le_of_ble_eq_true rfl) dL_tries_204 ⟨Nat.le_of_ble_eq_true rfl, Nat.le_of_ble_eq_true rfl⟩ (fun H locs hW => ?_)
                  refine xIcmpLt C (tgt := 232) (by omega) (by omega) dL_tries_207 (by decide) (fun h_207 => ?_) (fun h_207 => ?_)
                  · skip
                    refine lv_iconst (v := nI 1) hx hb dL_tries_232 (by decide) ?_
                    refine lv_goto (tgt := 237) hx hb dL_tries_233 (by decide) ?_
                    refine lv_istore (lv' := [(7, .int (nI 1)), (9, .int (nI k)), (8, .int ((wbF V (V 0)).1)), (4, .int (nI ru)), (3, .int (nI (trpT (V 0) (TV V)))), (2, .int (nI (V 0))), (0, .ref (ox 0)), (1, .int x)]) hx hb dL_tries_237 hl (by decide) rfl (fun ls hl => ?_)
                    refine xIinc C (kx := 1) (d := 1) (lv' := [(9, .int (nI (k + 1))), (7, .int (nI 1)), (8, .int ((wbF V (V 0)).1)), (4, .int (nI ru)), (3, .int (nI (trpT (V 0) (TV V)))), (2, .int (nI (V 0))), (0, .ref (ox 0)), (1, .int x)]) dL_tries_239 hl rfl (by decide) (by decide) rfl (fun ls hl => ?_)
                    refine lv_goto (tgt := 166) hx hb dL_tries_242 (by decide) ?_
                    exact ih166 (k + 1) (by omega) (by omega) _ _ hW _ (lv_sub hl [0, 1, 2, 3, 4, 5, 6, 7] rfl)
                  · skip
                    refine lv_aload_n hx hb dL_tries_210 rfl (lv_at hl 6 rfl) ?_
                    refine lv_iload hx hb dL_tries_211 (lv_at hl 0 rfl) ?_
                    refine qVr C hN hA (S := (V, m, P, k2, H2, HB, LL)) (S2 := (V, m, P, k2, H2, HB, LL)) (v := nI (ifN V k)) (As := [.int (nI k)]) (rest := []) (fun u A1 h => k4_ifStruck xl D kA ox os ob ot (V, m, P, k2, H2, HB, LL) u hJ h (nI k) A1) (e_if hV h_169) (cwV 1 hts gL_tries_X4_ifStruck rfl rfl rfl (by decide +kernel) ⟨Nat.le_of_ble_eq_true rfl, Nat.le_of_ble_eq_true rfl⟩) hW rfl hl.1 rfl (Nat.le_of_ble_eq_true rfl) dL_tries_213 ⟨Nat.le_of_ble_eq_true rfl, Nat.le_of_ble_eq_true rfl⟩ (fun H locs hW => ?_)
                    refine lv_aload_n hx hb dL_tries_216 rfl (lv_at hl 6 rfl) ?_
                    refine lv_iload hx hb dL_tries_217 (lv_at hl 2 rfl) ?_
                    refine xTop (y := nI wo) (ewo) ?_
                    refine qVr C hN hA (S := (V, m, P, k2, H2, HB, LL)) (S2 := (V, m, P, k2, H2, HB, LL)) (v := nI (ifN V wo)) (As := [.int (nI wo)]) (rest := [.int (nI (ifN V k))]) (fun u A1 h => k4_ifStruck xl D kA ox os ob ot (V, m, P, k2, H2, HB, LL) u hJ h (nI wo) A1) (e_if hV hwo) (cwV 1 hts gL_tries_X4_ifStruck rfl rfl rfl (by decide +kernel) ⟨Nat.le_of_ble_eq_true rfl, Nat.le_of_ble_eq_true rfl⟩) hW rfl hl.1 rfl (Nat.le_of_ble_eq_true rfl) dL_tries_219 ⟨Nat.le_of_ble_eq_true rfl, Nat.le_of_ble_eq_true rfl⟩ (fun H locs hW => ?_)
                    refine xIcmpNe C (tgt := 236) (by omega) (by omega) dL_tries_222 (by decide) (fun h_222 => ?_) (fun h_222 => ?_)
                    · exfalso; omega
                    · skip
                      refine lv_iload hx hb dL_tries_225 (lv_at hl 0 rfl) ?_
                      refine lv_iload hx hb dL_tries_227 (lv_at hl 2 rfl) ?_
                      refine xTop (y := nI wo) (ewo) ?_
                      refine xIcmpLt C (tgt := 236) (by omega) (by omega) dL_tries_229 (by decide) (fun h_229 => ?_) (fun h_229 => ?_)
                      · exact absurd (hm2 h_222) (Nat.not_le.mpr h_229)
                      · skip
                        refine lv_iconst (v := nI 1) hx hb dL_tries_232 (by decide) ?_
                        refine lv_goto (tgt := 237) hx hb dL_tries_233 (by decide) ?_
                        refine lv_istore (lv' := [(7, .int (nI 1)), (9, .int (nI k)), (8, .int ((wbF V (V 0)).1)), (4, .int (nI ru)), (3, .int (nI (trpT (V 0) (TV V)))), (2, .int (nI (V 0))), (0, .ref (ox 0)), (1, .int x)]) hx hb dL_tries_237 hl (by decide) rfl (fun ls hl => ?_)
                        refine xIinc C (kx := 1) (d := 1) (lv' := [(9, .int (nI (k + 1))), (7, .int (nI 1)), (8, .int ((wbF V (V 0)).1)), (4, .int (nI ru)), (3, .int (nI (trpT (V 0) (TV V)))), (2, .int (nI (V 0))), (0, .ref (ox 0)), (1, .int x)]) dL_tries_239 hl rfl (by decide) (by decide) rfl (fun ls hl => ?_)
                        refine lv_goto (tgt := 166) hx hb dL_tries_242 (by decide) ?_
                        exact ih166 (k + 1) (by omega) (by omega) _ _ hW _ (lv_sub hl [0, 1, 2, 3, 4, 5, 6, 7] rfl)
      exact L166 _ 0 (Nat.lt_succ_self _) (Nat.zero_le _) _ _ hW _ (lv_sub hl [0, 1, 2, 3, 4, 5, 6, 7] rfl)
    refine lv_iload hx hb dL_tries_123 (lv_at hl 1 rfl) ?_
    refine xIfEq C (tgt := 160) (by decide) dL_tries_125 (by decide) (fun h_125 => ?_) (fun h_125 => ?_)
    · exact absurd h_125 (by decide)
    · skip
      refine lv_iload hx hb dL_tries_128 (lv_at hl 0 rfl) ?_
      refine lv_bipush (v := (-6)) hx hb dL_tries_130 (by decide) ?_
      refine lv_icmp_ne (tgt := 139) hx hb dL_tries_132 (by decide) (fun h_132 => ?_) (fun h_132 => ?_)
      · skip
        refine lv_iconst (v := nI 0) hx hb dL_tries_139 (by decide) ?_
        refine xTop (y := bI (decide (cntN (V 0) (fun j => TV V j 1 == 2 - 1) = 0))) (dc_0 (fun q => h_132 (hwb.mpr q))) ?_
        refine lv_aload_n hx hb dL_tries_140 rfl (lv_at hl 5 rfl) ?_
        refine lv_iconst (v := nI 2) hx hb dL_tries_141 (by decide) ?_
        refine qVr C hN hA (S := (V, m, P, k2, H2, HB, LL)) (S2 := (V, m, P, k2, H2, HB, LL)) (v := nI (cntN (V 0) (fun j => TV V j 1 == 2 - 1))) (As := [.int (nI 2)]) (rest := [.int (bI (decide (cntN (V 0) (fun j => TV V j 1 == 2 - 1) = 0)))]) (fun u A1 h => k4_count xl D kA ox os ob ot (V, m, P, k2, H2, HB, LL) u hJ h (nI 2) A1) (e_countK (by decide)) (cwV 1 hts gL_tries_X4_count rfl rfl rfl (by decide +kernel) ⟨Nat.le_of_ble_eq_true rfl, Nat.le_of_ble_eq_true rfl⟩) hW rfl hl.1 rfl (Nat.le_of_ble_eq_true rfl) dL_tries_142 ⟨Nat.le_of_ble_eq_true rfl, Nat.le_of_ble_eq_true rfl⟩ (fun H locs hW => ?_)
        refine xIfNe C (tgt := 152) (by omega) dL_tries_145 (by decide) (fun h_145 => ?_) (fun h_145 => ?_)
        · skip
          refine lv_iconst (v := nI 0) hx hb dL_tries_152 (by decide) ?_
          refine xTop (y := bI (decide (cntN (V 0) (fun j => TV V j 1 == 2 - 1) = 0))) (dc_0 (Nat.ne_of_gt h_145)) ?_
          refine lv_icmp_ne (tgt := 160) hx hb dL_tries_153 (by decide) (fun h_153 => ?_) (fun h_153 => ?_)
          · exact absurd rfl h_153
          · skip
            refine lv_iconst (v := nI 1) hx hb dL_tries_156 (by decide) ?_
            refine lv_goto (tgt := 161) hx hb dL_tries_157 (by decide) ?_
            exact J123  _ _ hW _ (lv_sub hl [0, 1, 2, 3, 4, 5, 6] rfl)
        · skip
          refine lv_iconst (v := nI 1) hx hb dL_tries_148 (by decide) ?_
          refine xTop (y := bI (decide (cntN (V 0) (fun j => TV V j 1 == 2 - 1) = 0))) (dc_1 h_145) ?_
          refine lv_goto (tgt := 153) hx hb dL_tries_149 (by decide) ?_
          refine lv_icmp_ne (tgt := 160) hx hb dL_tries_153 (by decide) (fun h_153 => ?_) (fun h_153 => ?_)
          · exact absurd rfl h_153
          · skip
            refine lv_iconst (v := nI 1) hx hb dL_tries_156 (by decide) ?_
            refine lv_goto (tgt := 161) hx hb dL_tries_157 (by decide) ?_
            exact J123  _ _ hW _ (lv_sub hl [0, 1, 2, 3, 4, 5, 6] rfl)
      · skip
        refine lv_iconst (v := nI 1) hx hb dL_tries_135 (by decide) ?_
        refine xTop (y := bI (decide (cntN (V 0) (fun j => TV V j 1 == 2 - 1) = 0))) (dc_1 (hwb.mp h_132)) ?_
        refine lv_goto (tgt := 140) hx hb dL_tries_136 (by decide) ?_
        refine lv_aload_n hx hb dL_tries_140 rfl (lv_at hl 5 rfl) ?_
        refine lv_iconst (v := nI 2) hx hb dL_tries_141 (by decide) ?_
        refine qVr C hN hA (S := (V, m, P, k2, H2, HB, LL)) (S2 := (V, m, P, k2, H2, HB, LL)) (v := nI (cntN (V 0) (fun j => TV V j 1 == 2 - 1))) (As := [.int (nI 2)]) (rest := [.int (bI (decide (cntN (V 0) (fun j => TV V j 1 == 2 - 1) = 0)))]) (fun u A1 h => k4_count xl D kA ox os ob ot (V, m, P, k2, H2, HB, LL) u hJ h (nI 2) A1) (e_countK (by decide)) (cwV 1 hts gL_tries_X4_count rfl rfl rfl (by decide +kernel) ⟨Nat.le_of_ble_eq_true rfl, Nat.le_of_ble_eq_true rfl⟩) hW rfl hl.1 rfl (Nat.le_of_ble_eq_true rfl) dL_tries_142 ⟨Nat.le_of_ble_eq_true rfl, Nat.le_of_ble_eq_true rfl⟩ (fun H locs hW => ?_)
        refine xIfNe C (tgt := 152) (by omega) dL_tries_145 (by decide) (fun h_145 => ?_) (fun h_145 => ?_)
        · skip
          refine lv_iconst (v := nI 0) hx hb dL_tries_152 (by decide) ?_
          refine xTop (y := bI (decide (cntN (V 0) (fun j => TV V j 1 == 2 - 1) = 0))) (dc_0 (Nat.ne_of_gt h_145)) ?_
          refine lv_icmp_ne (tgt := 160) hx hb dL_tries_153 (by decide) (fun h_153 => ?_) (fun h_153 => ?_)
          · exact absurd rfl h_153
          · skip
            refine lv_iconst (v := nI 1) hx hb dL_tries_156 (by decide) ?_
            refine lv_goto (tgt := 161) hx hb dL_tries_157 (by decide) ?_
            exact J123  _ _ hW _ (lv_sub hl [0, 1, 2, 3, 4, 5, 6] rfl)
        · skip
          refine lv_iconst (v := nI 1) hx hb dL_tries_148 (by decide) ?_
          refine xTop (y := bI (decide (cntN (V 0) (fun j => TV V j 1 == 2 - 1) = 0))) (dc_1 h_145) ?_
          refine lv_goto (tgt := 153) hx hb dL_tries_149 (by decide) ?_
          refine lv_icmp_ne (tgt := 160) hx hb dL_tries_153 (by decide) (fun h_153 => ?_) (fun h_153 => ?_)
          · exact absurd rfl h_153
          · skip
            refine lv_iconst (v := nI 1) hx hb dL_tries_156 (by decide) ?_
            refine lv_goto (tgt := 161) hx hb dL_tries_157 (by decide) ?_
            exact J123  _ _ hW _ (lv_sub hl [0, 1, 2, 3, 4, 5, 6] rfl)
  rcases Nat.lt_or_eq_of_le hru2 with hq | hq
  · skip
    have htd := trp_le (n := V 0 - 1) (T := delT (TV V) ru)
    have hif : ifN V ru = 1000 + trpT (V 0 - 1) (delT (TV V) ru) - trpT (V 0) (TV V) := rfl
    refine lv_aload_n hx hb dL_tries_22 rfl (lv_at hl 3 rfl) ?_
    refine lv_iload hx hb dL_tries_23 (lv_at hl 0 rfl) ?_
    refine qVr C hN hA (S := (V, m, P, kt, HH, HB, LL)) (S2 := (V, m, P, kt, HH, HB, LL)) (v := nI (ifN V ru)) (As := [.int (nI ru)]) (rest := []) (fun u A1 h => k4_ifStruck xl D kA ox os ob ot (V, m, P, kt, HH, HB, LL) u hI h (nI ru) A1) (e_if hV hq) (cwV 1 hts gL_tries_X4_ifStruck rfl rfl rfl (by decide +kernel) ⟨Nat.le_of_ble_eq_true rfl, Nat.le_of_ble_eq_true rfl⟩) hW rfl hl.1 rfl (Nat.le_of_ble_eq_true rfl) dL_tries_25 ⟨Nat.le_of_ble_eq_true rfl, Nat.le_of_ble_eq_true rfl⟩ (fun H locs hW => ?_)
    refine lv_istore (lv' := [(5, .int (nI (ifN V ru))), (4, .int (nI ru)), (3, .int (nI (trpT (V 0) (TV V)))), (2, .int (nI (V 0))), (0, .ref (ox 0)), (1, .int x)]) hx hb dL_tries_28 hl (by decide) rfl (fun ls hl => ?_)
    refine lv_aload_n hx hb dL_tries_30 rfl (lv_at hl 4 rfl) ?_
    refine lv_iload hx hb dL_tries_31 (lv_at hl 1 rfl) ?_
    refine lv_iconst (v := nI 5) hx hb dL_tries_33 (by decide) ?_
    refine qVr C hN hA (S := (V, m, P, kt, HH, HB, LL)) (S2 := (V, m, P, kt, HH, HB, LL)) (v := bI (idB V ru)) (As := [.int (nI ru), .int (nI 5)]) (rest := []) (fun u A1 h => k4_rule xl D kA ox os ob ot (V, m, P, kt, HH, HB, LL) u hI h (nI ru) (nI 5) A1) ((e_rule hV hq (by decide)).trans (by rw [ru_5])) (cwV 2 hts gL_tries_X4_rule rfl rfl rfl (by decide +kernel) ⟨Nat.le_of_ble_eq_true rfl, Nat.le_of_ble_eq_true rfl⟩) hW rfl hl.1 rfl (Nat.le_of_ble_eq_true rfl) dL_tries_34 ⟨Nat.le_of_ble_eq_true rfl, Nat.le_of_ble_eq_true rfl⟩ (fun H locs hW => ?_)
    refine lv_istore (lv' := [(6, .int (bI (idB V ru))), (5, .int (nI (ifN V ru))), (4, .int (nI ru)), (3, .int (nI (trpT (V 0) (TV V)))), (2, .int (nI (V 0))), (0, .ref (ox 0)), (1, .int x)]) hx hb dL_tries_37 hl (by decide) rfl (fun ls hl => ?_)
    refine lv_iload hx hb dL_tries_39 (lv_at hl 2 rfl) ?_
    refine lv_iload_n hx hb dL_tries_41 rfl (lv_at hl 4 rfl) ?_
    refine xIcmpNe C (tgt := 59) (by omega) (by omega) dL_tries_42 (by decide) (fun h_42 => ?_) (fun h_42 => ?_)
    · skip
      refine lv_aload_n hx hb dL_tries_59 rfl (lv_at hl 5 rfl) ?_
      refine lv_iload hx hb dL_tries_60 (lv_at hl 2 rfl) ?_
      have he_62 : opStrike (V, m, P, kt, HH, HB, LL) (nI ru) = (nI (V 0 - 1), psS V (strV V ru) m P kt HH HB LL) := e_strike hV hq
      have hI_62 : InvS (psS V (strV V ru) m P kt HH HB LL) := inv_of (i_strike hI) he_62
      refine qV C hN hA (S := (V, m, P, kt, HH, HB, LL)) (S2 := (psS V (strV V ru) m P kt HH HB LL)) (v := nI (V 0 - 1)) (As := [.int (nI ru)]) (rest := []) (fun u A1 h => k4_strike xl D kA ox os ob ot (V, m, P, kt, HH, HB, LL) u hI h (nI ru) A1) (he_62) (cwV 1 hts gL_tries_X4_strike rfl rfl rfl (by decide +kernel) ⟨Nat.le_of_ble_eq_true rfl, Nat.le_of_ble_eq_true rfl⟩) hW rfl hl.1 rfl (Nat.le_of_ble_eq_true rfl) dL_tries_62 ⟨Nat.le_of_ble_eq_true rfl, Nat.le_of_ble_eq_true rfl⟩ (fun H locs hW => ?_)
      refine lv_iload_n hx hb dL_tries_65 rfl (lv_at hl 4 rfl) ?_
      refine lv_iconst (v := nI 1) hx hb dL_tries_66 (by decide) ?_
      refine xIsub C (by omega) dL_tries_67 ?_
      refine xIcmpNe C (tgt := 114) (by omega) (by omega) dL_tries_68 (by decide) (fun h_68 => ?_) (fun h_68 => ?_)
      · exact absurd rfl h_68
      · skip
        refine lv_aload_n hx hb dL_tries_71 rfl (lv_at hl 5 rfl) ?_
        refine lv_bipush (v := nI 6) hx hb dL_tries_72 (by decide) ?_
        refine qVr C hN hA (S := (psS V (strV V ru) m P kt HH HB LL)) (S2 := (psS V (strV V ru) m P kt HH HB LL)) (v := nI (trpT (V 0 - 1) (delT (TV V) ru))) (As := [.int (nI 6)]) (rest := []) (fun u A1 h => k4_count xl D kA ox os ob ot (psS V (strV V ru) m P kt HH HB LL) u hI_62 h (nI 6) A1) (e_count6.trans (by rw [trp_str])) (cwV 1 hts gL_tries_X4_count rfl rfl rfl (by decide +kernel) ⟨Nat.le_of_ble_eq_true rfl, Nat.le_of_ble_eq_true rfl⟩) hW rfl hl.1 rfl (Nat.le_of_ble_eq_true rfl) dL_tries_74 ⟨Nat.le_of_ble_eq_true rfl, Nat.le_of_ble_eq_true rfl⟩ (fun H locs hW => ?_)
        refine lv_iload_n hx hb dL_tries_77 rfl (lv_at hl 3 rfl) ?_
        refine lv_iload hx hb dL_tries_78 (lv_at hl 1 rfl) ?_
        refine xIadd C dL_tries_80 ?_
        refine lv_sipush (v := nI 1000) hx hb dL_tries_81 (by decide) ?_
        refine xIsub C (by omega) dL_tries_84 ?_
        refine xIcmpNe C (tgt := 114) (by omega) (by omega) dL_tries_85 (by decide) (fun h_85 => ?_) (fun h_85 => ?_)
        · exfalso; omega
        · skip
          refine lv_iload hx hb dL_tries_88 (lv_at hl 0 rfl) ?_
          refine xIfEqB C (tgt := 103) dL_tries_90 (by decide) (fun h_90 => ?_) (fun h_90 => ?_)
          · skip
            refine lv_aload_n hx hb dL_tries_103 rfl (lv_at hl 5 rfl) ?_
            have he_104 : opUndo (psS V (strV V ru) m P kt HH HB LL)  = (nI (pushN kt - 1), (V, m, P, pushN kt - 1, pushH HH kt V, HB, LL)) := e_undo hkt
            have hI_104 : InvS (V, m, P, pushN kt - 1, pushH HH kt V, HB, LL) := inv_of (i_undo hI_62) he_104
            refine qVr C hN hA (S := (psS V (strV V ru) m P kt HH HB LL)) (S2 := (V, m, P, pushN kt - 1, pushH HH kt V, HB, LL)) (v := nI (pushN kt - 1)) (As := []) (rest := []) (fun u A1 h => k4_undo xl D kA ox os ob ot (psS V (strV V ru) m P kt HH HB LL) u hI_62 h  A1) (he_104) (cwV 0 hts gL_tries_X4_undo rfl rfl rfl (by decide +kernel) ⟨Nat.le_of_ble_eq_true rfl, Nat.le_of_ble_eq_true rfl⟩) hW rfl hl.1 rfl (Nat.le_of_ble_eq_true rfl) dL_tries_104 ⟨Nat.le_of_ble_eq_true rfl, Nat.le_of_ble_eq_true rfl⟩ (fun H locs hW => ?_)
            refine xIfLt C (tgt := 114) (ps_lt hkt) dL_tries_107 (by decide) ?_
            refine lv_iconst (v := nI 1) hx hb dL_tries_110 (by decide) ?_
            refine lv_goto (tgt := 115) hx hb dL_tries_111 (by decide) ?_
            exact J22 (pushN kt - 1) (pushH HH kt V) hI_104 _ _ hW _ (lv_sub hl [2, 3, 4, 5, 6] rfl)
          · skip
            refine lv_aload_n hx hb dL_tries_93 rfl (lv_at hl 5 rfl) ?_
            refine lv_bipush (v := nI 6) hx hb dL_tries_94 (by decide) ?_
            refine qVr C hN hA (S := (psS V (strV V ru) m P kt HH HB LL)) (S2 := (psS V (strV V ru) m P kt HH HB LL)) (v := nI (trpT (V 0 - 1) (delT (TV V) ru))) (As := [.int (nI 6)]) (rest := []) (fun u A1 h => k4_count xl D kA ox os ob ot (psS V (strV V ru) m P kt HH HB LL) u hI_62 h (nI 6) A1) (e_count6.trans (by rw [trp_str])) (cwV 1 hts gL_tries_X4_count rfl rfl rfl (by decide +kernel) ⟨Nat.le_of_ble_eq_true rfl, Nat.le_of_ble_eq_true rfl⟩) hW rfl hl.1 rfl (Nat.le_of_ble_eq_true rfl) dL_tries_96 ⟨Nat.le_of_ble_eq_true rfl, Nat.le_of_ble_eq_true rfl⟩ (fun H locs hW => ?_)
            refine lv_iload_n hx hb dL_tries_99 rfl (lv_at hl 3 rfl) ?_
            refine xIcmpNe C (tgt := 114) (by omega) (by omega) dL_tries_100 (by decide) (fun h_100 => ?_) (fun h_100 => ?_)
            · exact absurd (id_trp hV hWf hq h_90) h_100
            · skip
              refine lv_aload_n hx hb dL_tries_103 rfl (lv_at hl 5 rfl) ?_
              have he_104 : opUndo (psS V (strV V ru) m P kt HH HB LL)  = (nI (pushN kt - 1), (V, m, P, pushN kt - 1, pushH HH kt V, HB, LL)) := e_undo hkt
              have hI_104 : InvS (V, m, P, pushN kt - 1, pushH HH kt V, HB, LL) := inv_of (i_undo hI_62) he_104
              refine qVr C hN hA (S := (psS V (strV V ru) m P kt HH HB LL)) (S2 := (V, m, P, pushN kt - 1, pushH HH kt V, HB, LL)) (v := nI (pushN kt - 1)) (As := []) (rest := []) (fun u A1 h => k4_undo xl D kA ox os ob ot (psS V (strV V ru) m P kt HH HB LL) u hI_62 h  A1) (he_104) (cwV 0 hts gL_tries_X4_undo rfl rfl rfl (by decide +kernel) ⟨Nat.le_of_ble_eq_true rfl, Nat.le_of_ble_eq_true rfl⟩) hW rfl hl.1 rfl (Nat.le_of_ble_eq_true rfl) dL_tries_104 ⟨Nat.le_of_ble_eq_true rfl, Nat.le_of_ble_eq_true rfl⟩ (fun H locs hW => ?_)
              refine xIfLt C (tgt := 114) (ps_lt hkt) dL_tries_107 (by decide) ?_
              refine lv_iconst (v := nI 1) hx hb dL_tries_110 (by decide) ?_
              refine lv_goto (tgt := 115) hx hb dL_tries_111 (by decide) ?_
              exact J22 (pushN kt - 1) (pushH HH kt V) hI_104 _ _ hW _ (lv_sub hl [2, 3, 4, 5, 6] rfl)
    · exfalso; omega
  · skip
    refine lv_aload_n hx hb dL_tries_22 rfl (lv_at hl 3 rfl) ?_
    refine lv_iload hx hb dL_tries_23 (lv_at hl 0 rfl) ?_
    refine qVr C hN hA (S := (V, m, P, kt, HH, HB, LL)) (S2 := (V, m, P, kt, HH, HB, LL)) (v := (-1)) (As := [.int (nI ru)]) (rest := []) (fun u A1 h => k4_ifStruck xl D kA ox os ob ot (V, m, P, kt, HH, HB, LL) u hI h (nI ru) A1) (by rw [hq]; exact e_ifN hV) (cwV 1 hts gL_tries_X4_ifStruck rfl rfl rfl (by decide +kernel) ⟨Nat.le_of_ble_eq_true rfl, Nat.le_of_ble_eq_true rfl⟩) hW rfl hl.1 rfl (Nat.le_of_ble_eq_true rfl) dL_tries_25 ⟨Nat.le_of_ble_eq_true rfl, Nat.le_of_ble_eq_true rfl⟩ (fun H locs hW => ?_)
    refine lv_istore (lv' := [(5, .int (-1)), (4, .int (nI ru)), (3, .int (nI (trpT (V 0) (TV V)))), (2, .int (nI (V 0))), (0, .ref (ox 0)), (1, .int x)]) hx hb dL_tries_28 hl (by decide) rfl (fun ls hl => ?_)
    refine lv_aload_n hx hb dL_tries_30 rfl (lv_at hl 4 rfl) ?_
    refine lv_iload hx hb dL_tries_31 (lv_at hl 1 rfl) ?_
    refine lv_iconst (v := nI 5) hx hb dL_tries_33 (by decide) ?_
    refine qVr C hN hA (S := (V, m, P, kt, HH, HB, LL)) (S2 := (V, m, P, kt, HH, HB, LL)) (v := (-1)) (As := [.int (nI ru), .int (nI 5)]) (rest := []) (fun u A1 h => k4_rule xl D kA ox os ob ot (V, m, P, kt, HH, HB, LL) u hI h (nI ru) (nI 5) A1) (by rw [hq]; exact e_ruleN hV) (cwV 2 hts gL_tries_X4_rule rfl rfl rfl (by decide +kernel) ⟨Nat.le_of_ble_eq_true rfl, Nat.le_of_ble_eq_true rfl⟩) hW rfl hl.1 rfl (Nat.le_of_ble_eq_true rfl) dL_tries_34 ⟨Nat.le_of_ble_eq_true rfl, Nat.le_of_ble_eq_true rfl⟩ (fun H locs hW => ?_)
    refine lv_istore (lv' := [(6, .int (-1)), (5, .int (-1)), (4, .int (nI ru)), (3, .int (nI (trpT (V 0) (TV V)))), (2, .int (nI (V 0))), (0, .ref (ox 0)), (1, .int x)]) hx hb dL_tries_37 hl (by decide) rfl (fun ls hl => ?_)
    refine lv_iload hx hb dL_tries_39 (lv_at hl 2 rfl) ?_
    refine lv_iload_n hx hb dL_tries_41 rfl (lv_at hl 4 rfl) ?_
    refine xIcmpNe C (tgt := 59) (by omega) (by omega) dL_tries_42 (by decide) (fun h_42 => ?_) (fun h_42 => ?_)
    · exfalso; omega
    · skip
      refine lv_iload hx hb dL_tries_45 (lv_at hl 1 rfl) ?_
      refine lv_iconst (v := (-1)) hx hb dL_tries_47 (by decide) ?_
      refine lv_icmp_ne (tgt := 55) hx hb dL_tries_48 (by decide) (fun h_48 => ?_) (fun h_48 => ?_)
      · exact absurd rfl h_48
      · skip
        refine lv_iconst (v := nI 1) hx hb dL_tries_51 (by decide) ?_
        refine lv_goto (tgt := 115) hx hb dL_tries_52 (by decide) ?_
        refine W.widen (k := 14) (n := 212) (by omega) (by omega) ?_
        exact J22 kt HH hI _ _ hW _ (lv_sub hl [2, 3, 4, 5, 6] rfl)
