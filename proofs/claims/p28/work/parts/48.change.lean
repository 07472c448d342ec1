set_option maxHeartbeats 8000000 in
set_option maxRecDepth 100000 in
theorem c_L_change (xl : Launch) (D : va_G) (kA : Nat → ClassId) (ox os ob ot : Nat → Nat) (V : Nat → Nat) (m : Nat) (P : Nat → Nat) (kt : Nat) (HH : Nat → Nat → Nat) (HB : Nat → Bool) (LL : Nat → Nat → Nat) (hI : InvS (V, m, P, kt, HH, HB, LL)) (dd : Nat) (g : Nat → Int32) (t : Nat) (hL : LI V g t) (ht : t ≤ 800) (kd : Nat) (hkd : kd < 16) (av bv : Int32) (u : va_W) (hc : ClsR kA ox os ob ot (V, m, P, kt, HH, HB, LL) u) (A : Nat → Prop) : Met xl yL_change wsL_change { frames := 9, cells := 14, slots := 212, locals := 207 } (va_Pc [.ref (ox 0), .ref dd, .int (nI kd), .int av, .int bv] (xPw D kA A (u ++ [(dd, .inl (kA 0, 2, .inl (g)))]))) (xQi D A (lawQ kA ox os ob ot (fun r S2 X2 => r = nI 1 ∧ ChR kA m P HB LL dd (t + 1) S2 X2))) 14 212 A := by
  refine Met.ofW (cc := cL_change) (maxL := 15) (ret := (some .boolean)) (by decide) rfl ?_
  intro xp xe xs xm args xbe xme xc s₁ B hml hv
  obtain ⟨rfl, hP, hN, hD, hA⟩ := hv
  have hret := B.returns
  have C : CallFix xp xm xc cL_change 15 xs ([.ref (ox 0), .ref dd, .int (nI kd), .int av, .int bv] : List Value).toArray wsL_change RL := ⟨B.exec, B.bytes, hml, findClass_of_methodNamed B.named, atoms_spec (ws := wsL_change) B.pre⟩
  have hlocks := B.notSynchronized
  obtain ⟨hx, hb, _, hown, hts⟩ := id C
  have hW : WX D kA A xs.heap ox os ob ot (V, m, P, kt, HH, HB, LL) [(dd, .inl (kA 0, 2, .inl (g)))] xs.heap [] := ⟨u, hc, hP, hD, va_S.rf⟩
  have hl := lv_entry ([.ref (ox 0), .ref dd, .int (nI kd), .int av, .int bv]) (n := 15) (Nat.le_of_ble_eq_true rfl)
  rw [lg_entry_eq]
  generalize (lg_sl ([.ref (ox 0), .ref dd, .int (nI kd), .int av, .int bv]) ++ List.replicate (15 - (lg_sl ([.ref (ox 0), .ref dd, .int (nI kd), .int av, .int bv])).length) Slot.unset).toArray = ls at hl ⊢
  have hl : lv_has ls 15 [(0, .ref (ox 0)), (1, .ref dd), (2, .int (nI kd)), (3, .int av), (4, .int bv)] := hl
  have hV : V 0 ≤ 24 := hI.1.1
  have hWf : WfT (V 0) (TV V) := hI.1.2.1
  have hM : V 1 ≤ 10 := hI.1.2.2.1
  obtain ⟨hg0, hg1, hdn, ht2, htr⟩ := id hL
  have htp : trpT (V 0) (TV V) ≤ 300 := trp_le
  have hci : cntN (V 0) (idB V) ≤ V 0 := cn_le
  obtain ⟨ru, hru, hru2⟩ : ∃ x, loN av % (V 0 + 1) = x ∧ x ≤ V 0 := ⟨_, rfl, Nat.lt_succ_iff.mp (lo_mod (Nat.succ_pos _))⟩
  obtain ⟨mu, hmu, hmu2⟩ : ∃ x, loN av % (V 1 + 1) = x ∧ x ≤ V 1 := ⟨_, rfl, Nat.lt_succ_iff.mp (lo_mod (Nat.succ_pos _))⟩
  obtain ⟨ly, hly, hly2⟩ : ∃ x, loN av % 5 = x ∧ x < 5 := ⟨_, rfl, lo_mod (by decide)⟩
  obtain ⟨cr, hcr, hcr2⟩ : ∃ x, loN (av >>> (nI 3 &&& 31)) % 6 = x ∧ x < 6 := ⟨_, rfl, lo_mod (by decide)⟩
  obtain ⟨de, hde, hde2⟩ : ∃ x, loN (av >>> (nI 6 &&& 31)) % 7 = x ∧ x < 7 := ⟨_, rfl, lo_mod (by decide)⟩
  obtain ⟨se, hse, hse2⟩ : ∃ x, loN (bv >>> (nI 5 &&& 31)) % 9 = x ∧ x < 9 := ⟨_, rfl, lo_mod (by decide)⟩
  obtain ⟨sz, hsz, hsz2⟩ : ∃ x, loN bv % 9 = x ∧ x < 9 := ⟨_, rfl, lo_mod (by decide)⟩
  obtain ⟨lz, hlz, hlz2⟩ : ∃ x, loN bv % 5 = x ∧ x < 5 := ⟨_, rfl, lo_mod (by decide)⟩
  obtain ⟨rj, hrj, hrj2⟩ : ∃ x, loN bv % 10 = x ∧ x < 10 := ⟨_, rfl, lo_mod (by decide)⟩
  obtain ⟨rk, hrk, hrk2⟩ : ∃ x, loN (bv >>> (nI 2 &&& 31)) % 10 = x ∧ x < 10 := ⟨_, rfl, lo_mod (by decide)⟩
  refine lv_aload_n hx hb dL_change_0 rfl (lv_at hl 0 rfl) ?_
  refine lv_iconst (v := nI 0) hx hb dL_change_1 (by decide) ?_
  refine qVr C hN hA (S := (V, m, P, kt, HH, HB, LL)) (S2 := (V, m, P, kt, HH, HB, LL)) (v := nI (V 0)) (As := [.int (nI 0)]) (rest := []) (fun u A1 h => k4_count xl D kA ox os ob ot (V, m, P, kt, HH, HB, LL) u hI h (nI 0) A1) (e_count0) (cwV 1 hts gL_change_X4_count rfl rfl rfl (by decide +kernel) ⟨Nat.le_of_ble_eq_true rfl, Nat.le_of_ble_eq_true rfl⟩) hW rfl hl.1 rfl (Nat.le_of_ble_eq_true rfl) dL_change_2 ⟨Nat.le_of_ble_eq_true rfl, Nat.le_of_ble_eq_true rfl⟩ (fun H locs hW => ?_)
  refine lv_istore (lv' := [(5, .int (nI (V 0))), (0, .ref (ox 0)), (1, .ref dd), (2, .int (nI kd)), (3, .int av), (4, .int bv)]) hx hb dL_change_5 hl (by decide) rfl (fun ls hl => ?_)
  refine lv_iload_n hx hb dL_change_7 rfl (lv_at hl 4 rfl) ?_
  refine lv_iload hx hb dL_change_8 (lv_at hl 0 rfl) ?_
  refine lv_iconst (v := nI 1) hx hb dL_change_10 (by decide) ?_
  refine xIadd C dL_change_11 ?_
  refine wSr0 C hN (As := [.int av, .int (nI ((V 0) + 1))]) (rest := []) (v := nI (loN av % ((V 0) + 1))) (c_L_low xl D kA av ((V 0) + 1) (by omega) (by omega)) (va_cwS 2 hts gL_change_L_low rfl rfl rfl (by decide +kernel) ⟨Nat.le_of_ble_eq_true rfl, Nat.le_of_ble_eq_true rfl⟩) rfl hl.1 rfl (Nat.le_of_ble_eq_true rfl) dL_change_12 ⟨Nat.le_of_ble_eq_true rfl, Nat.le_of_ble_eq_true rfl⟩ ?_
  refine xTop (y := nI ru) (by rw [hru]) ?_
  refine lv_istore (lv' := [(6, .int (nI ru)), (5, .int (nI (V 0))), (0, .ref (ox 0)), (1, .ref dd), (2, .int (nI kd)), (3, .int av), (4, .int bv)]) hx hb dL_change_15 hl (by decide) rfl (fun ls hl => ?_)
  refine lv_iconst (v := nI 0) hx hb dL_change_17 (by decide) ?_
  refine lv_istore (lv' := [(7, .int (nI 0)), (6, .int (nI ru)), (5, .int (nI (V 0))), (0, .ref (ox 0)), (1, .ref dd), (2, .int (nI kd)), (3, .int av), (4, .int bv)]) hx hb dL_change_18 hl (by decide) rfl (fun ls hl => ?_)
  refine lv_iconst (v := nI 0) hx hb dL_change_20 (by decide) ?_
  refine lv_istore (lv' := [(8, .int (nI 0)), (7, .int (nI 0)), (6, .int (nI ru)), (5, .int (nI (V 0))), (0, .ref (ox 0)), (1, .ref dd), (2, .int (nI kd)), (3, .int av), (4, .int bv)]) hx hb dL_change_21 hl (by decide) rfl (fun ls hl => ?_)
  refine lv_aload_n hx hb dL_change_23 rfl (lv_at hl 4 rfl) ?_
  refine lv_bipush (v := nI 7) hx hb dL_change_24 (by decide) ?_
  refine qVr C hN hA (S := (V, m, P, kt, HH, HB, LL)) (S2 := (V, m, P, kt, HH, HB, LL)) (v := nI (V 1)) (As := [.int (nI 7)]) (rest := []) (fun u A1 h => k4_count xl D kA ox os ob ot (V, m, P, kt, HH, HB, LL) u hI h (nI 7) A1) (e_count7) (cwV 1 hts gL_change_X4_count rfl rfl rfl (by decide +kernel) ⟨Nat.le_of_ble_eq_true rfl, Nat.le_of_ble_eq_true rfl⟩) hW rfl hl.1 rfl (Nat.le_of_ble_eq_true rfl) dL_change_26 ⟨Nat.le_of_ble_eq_true rfl, Nat.le_of_ble_eq_true rfl⟩ (fun H locs hW => ?_)
  refine lv_istore (lv' := [(9, .int (nI (V 1))), (8, .int (nI 0)), (7, .int (nI 0)), (6, .int (nI ru)), (5, .int (nI (V 0))), (0, .ref (ox 0)), (1, .ref dd), (2, .int (nI kd)), (3, .int av), (4, .int bv)]) hx hb dL_change_29 hl (by decide) rfl (fun ls hl => ?_)
  refine lv_iload_n hx hb dL_change_31 rfl (lv_at hl 8 rfl) ?_
  refine lv_iload hx hb dL_change_32 (lv_at hl 0 rfl) ?_
  refine lv_iconst (v := nI 1) hx hb dL_change_34 (by decide) ?_
  refine xIadd C dL_change_35 ?_
  refine wSr0 C hN (As := [.int av, .int (nI ((V 1) + 1))]) (rest := []) (v := nI (loN av % ((V 1) + 1))) (c_L_low xl D kA av ((V 1) + 1) (by omega) (by omega)) (va_cwS 2 hts gL_change_L_low rfl rfl rfl (by decide +kernel) ⟨Nat.le_of_ble_eq_true rfl, Nat.le_of_ble_eq_true rfl⟩) rfl hl.1 rfl (Nat.le_of_ble_eq_true rfl) dL_change_36 ⟨Nat.le_of_ble_eq_true rfl, Nat.le_of_ble_eq_true rfl⟩ ?_
  refine xTop (y := nI mu) (by rw [hmu]) ?_
  refine lv_istore (lv' := [(10, .int (nI mu)), (9, .int (nI (V 1))), (8, .int (nI 0)), (7, .int (nI 0)), (6, .int (nI ru)), (5, .int (nI (V 0))), (0, .ref (ox 0)), (1, .ref dd), (2, .int (nI kd)), (3, .int av), (4, .int bv)]) hx hb dL_change_39 hl (by decide) rfl (fun ls hl => ?_)
  refine lv_iload_n hx hb dL_change_41 rfl (lv_at hl 8 rfl) ?_
  have J104 : ∀ (H : Heap) (locs : List Loc) (_ : WX D kA A xs.heap ox os ob ot (V, m, P, kt, HH, HB, LL) [(dd, .inl (kA 0, 2, .inl (g)))] H locs) (ls : Array Slot) (_ : lv_has ls 15 [(10, .int (nI mu)), (9, .int (nI (V 1))), (8, .int (nI 0)), (7, .int (nI 0)), (6, .int (nI ru)), (5, .int (nI (V 0))), (0, .ref (ox 0)), (1, .ref dd), (2, .int (nI kd)), (3, .int av), (4, .int bv)]), W xp xl xe (headSpec wsL_change { frames := 9, cells := 14, slots := 212, locals := 207 }).room xs xm ([.ref (ox 0), .ref dd, .int (nI kd), .int av, .int bv] : List Value).toArray xbe xme xc H locs (0) (0) (MQ xbe (xQi D A (lawQ kA ox os ob ot (fun r S2 X2 => r = nI 1 ∧ ChR kA m P HB LL dd (t + 1) S2 X2))) ([.ref (ox 0), .ref dd, .int (nI kd), .int av, .int bv] : List Value).toArray xs 14 212 A) (F0 xm 104 ls []) := by
    intro H locs hW ls hl
    refine lv_iload hx hb dL_change_104 (lv_at hl 10 rfl) ?_
    refine lv_iconst (v := nI 5) hx hb dL_change_106 (by decide) ?_
    refine wSr0 C hN (As := [.int bv, .int (nI 5)]) (rest := []) (v := nI (loN bv % 5)) (c_L_low xl D kA bv 5 (by decide) (by decide)) (va_cwS 2 hts gL_change_L_low rfl rfl rfl (by decide +kernel) ⟨Nat.le_of_ble_eq_true rfl, Nat.le_of_ble_eq_true rfl⟩) rfl hl.1 rfl (Nat.le_of_ble_eq_true rfl) dL_change_107 ⟨Nat.le_of_ble_eq_true rfl, Nat.le_of_ble_eq_true rfl⟩ ?_
    have J110 : ∀ (wh : Nat) (hwh : wh ≤ 2) (H : Heap) (locs : List Loc) (_ : WX D kA A xs.heap ox os ob ot (V, m, P, kt, HH, HB, LL) [(dd, .inl (kA 0, 2, .inl (g)))] H locs) (ls : Array Slot) (_ : lv_has ls 15 [(10, .int (nI mu)), (9, .int (nI (V 1))), (8, .int (nI 0)), (7, .int (nI 0)), (6, .int (nI ru)), (5, .int (nI (V 0))), (0, .ref (ox 0)), (1, .ref dd), (2, .int (nI kd)), (3, .int av), (4, .int bv)]), W xp xl xe (headSpec wsL_change { frames := 9, cells := 14, slots := 212, locals := 207 }).room xs xm ([.ref (ox 0), .ref dd, .int (nI kd), .int av, .int bv] : List Value).toArray xbe xme xc H locs (0) (0) (MQ xbe (xQi D A (lawQ kA ox os ob ot (fun r S2 X2 => r = nI 1 ∧ ChR kA m P HB LL dd (t + 1) S2 X2))) ([.ref (ox 0), .ref dd, .int (nI kd), .int av, .int bv] : List Value).toArray xs 14 212 A) (F0 xm 127 ls [.int (nI wh)]) := by
      intro wh hwh H locs hW ls hl
      refine lv_istore (lv' := [(11, .int (nI wh)), (10, .int (nI mu)), (9, .int (nI (V 1))), (8, .int (nI 0)), (7, .int (nI 0)), (6, .int (nI ru)), (5, .int (nI (V 0))), (0, .ref (ox 0)), (1, .ref dd), (2, .int (nI kd)), (3, .int av), (4, .int bv)]) hx hb dL_change_127 hl (by decide) rfl (fun ls hl => ?_)
      refine lv_iload_n hx hb dL_change_129 rfl (lv_at hl 10 rfl) ?_
      refine lv_iconst (v := nI 5) hx hb dL_change_130 (by decide) ?_
      refine wSr0 C hN (As := [.int av, .int (nI 5)]) (rest := []) (v := nI (loN av % 5)) (c_L_low xl D kA av 5 (by decide) (by decide)) (va_cwS 2 hts gL_change_L_low rfl rfl rfl (by decide +kernel) ⟨Nat.le_of_ble_eq_true rfl, Nat.le_of_ble_eq_true rfl⟩) rfl hl.1 rfl (Nat.le_of_ble_eq_true rfl) dL_change_131 ⟨Nat.le_of_ble_eq_true rfl, Nat.le_of_ble_eq_true rfl⟩ ?_
      refine xTop (y := nI ly) (by rw [hly]) ?_
      refine lv_istore (lv' := [(12, .int (nI ly)), (11, .int (nI wh)), (10, .int (nI mu)), (9, .int (nI (V 1))), (8, .int (nI 0)), (7, .int (nI 0)), (6, .int (nI ru)), (5, .int (nI (V 0))), (0, .ref (ox 0)), (1, .ref dd), (2, .int (nI kd)), (3, .int av), (4, .int bv)]) hx hb dL_change_134 hl (by decide) rfl (fun ls hl => ?_)
      refine lv_aload_n hx hb dL_change_136 rfl (lv_at hl 8 rfl) ?_
      refine lv_iload hx hb dL_change_137 (lv_at hl 0 rfl) ?_
      refine lv_iload hx hb dL_change_139 (lv_at hl 1 rfl) ?_
      refine lv_iload_n hx hb dL_change_141 rfl (lv_at hl 11 rfl) ?_
      refine lv_iconst (v := nI 3) hx hb dL_change_142 (by decide) ?_
      refine lv_ishr hx hb dL_change_143 ?_
      refine lv_bipush (v := nI 6) hx hb dL_change_144 (by decide) ?_
      refine wSr0 C hN (As := [.int (av >>> ((nI 3) &&& 31)), .int (nI 6)]) (rest := [.int (nI wh), .int (nI ly), .ref (ox 0)]) (v := nI (loN (av >>> ((nI 3) &&& 31)) % 6)) (c_L_low xl D kA (av >>> ((nI 3) &&& 31)) 6 (by decide) (by decide)) (va_cwS 2 hts gL_change_L_low rfl rfl rfl (by decide +kernel) ⟨Nat.le_of_ble_eq_true rfl, Nat.le_of_ble_eq_true rfl⟩) rfl hl.1 rfl (Nat.le_of_ble_eq_true rfl) dL_change_146 ⟨Nat.le_of_ble_eq_true rfl, Nat.le_of_ble_eq_true rfl⟩ ?_
      refine xTop (y := nI cr) (by rw [hcr]) ?_
      refine lv_iload_n hx hb dL_change_149 rfl (lv_at hl 11 rfl) ?_
      refine lv_bipush (v := nI 6) hx hb dL_change_150 (by decide) ?_
      refine lv_ishr hx hb dL_change_152 ?_
      refine lv_bipush (v := nI 7) hx hb dL_change_153 (by decide) ?_
      refine wSr0 C hN (As := [.int (av >>> ((nI 6) &&& 31)), .int (nI 7)]) (rest := [.int (nI cr), .int (nI wh), .int (nI ly), .ref (ox 0)]) (v := nI (loN (av >>> ((nI 6) &&& 31)) % 7)) (c_L_low xl D kA (av >>> ((nI 6) &&& 31)) 7 (by decide) (by decide)) (va_cwS 2 hts gL_change_L_low rfl rfl rfl (by decide +kernel) ⟨Nat.le_of_ble_eq_true rfl, Nat.le_of_ble_eq_true rfl⟩) rfl hl.1 rfl (Nat.le_of_ble_eq_true rfl) dL_change_155 ⟨Nat.le_of_ble_eq_true rfl, Nat.le_of_ble_eq_true rfl⟩ ?_
      refine xTop (y := nI de) (by rw [hde]) ?_
      refine lv_iconst (v := nI 1) hx hb dL_change_158 (by decide) ?_
      refine lv_iload hx hb dL_change_159 (lv_at hl 12 rfl) ?_
      refine lv_iconst (v := nI 5) hx hb dL_change_161 (by decide) ?_
      refine lv_ishr hx hb dL_change_162 ?_
      refine lv_bipush (v := nI 9) hx hb dL_change_163 (by decide) ?_
      refine wSr0 C hN (As := [.int (bv >>> ((nI 5) &&& 31)), .int (nI 9)]) (rest := [.int (nI 1), .int (nI de), .int (nI cr), .int (nI wh), .int (nI ly), .ref (ox 0)]) (v := nI (loN (bv >>> ((nI 5) &&& 31)) % 9)) (c_L_low xl D kA (bv >>> ((nI 5) &&& 31)) 9 (by decide) (by decide)) (va_cwS 2 hts gL_change_L_low rfl rfl rfl (by decide +kernel) ⟨Nat.le_of_ble_eq_true rfl, Nat.le_of_ble_eq_true rfl⟩) rfl hl.1 rfl (Nat.le_of_ble_eq_true rfl) dL_change_165 ⟨Nat.le_of_ble_eq_true rfl, Nat.le_of_ble_eq_true rfl⟩ ?_
      refine xTop (y := nI se) (by rw [hse]) ?_
      refine xIadd C dL_change_168 ?_
      rcases (show (wh = 0 ∧ 0 < ly) ∨ (¬ (wh = 0 ∧ 0 < ly) ∧ V 0 = 24) ∨ (¬ (wh = 0 ∧ 0 < ly) ∧ V 0 ≠ 24) by omega) with hq | hq | hq
      · skip
        refine qV C hN hA (S := (V, m, P, kt, HH, HB, LL)) (S2 := (V, m, P, kt, HH, HB, LL)) (v := (-5)) (As := [.int (nI ly), .int (nI wh), .int (nI cr), .int (nI de), .int (nI (1 + se))]) (rest := []) (fun u A1 h => k4_add xl D kA ox os ob ot (V, m, P, kt, HH, HB, LL) u hI h (nI ly) (nI wh) (nI cr) (nI de) (nI (1 + se)) A1) (e_addP hly2 hq.2 hq.1 (by omega) (by omega) (by omega)) (cwV 5 hts gL_change_X4_add rfl rfl rfl (by decide +kernel) ⟨Nat.le_of_ble_eq_true rfl, Nat.le_of_ble_eq_true rfl⟩) hW rfl hl.1 rfl (Nat.le_of_ble_eq_true rfl) dL_change_169 ⟨Nat.le_of_ble_eq_true rfl, Nat.le_of_ble_eq_true rfl⟩ (fun H locs hW => ?_)
        refine lv_istore (lv' := [(8, .int (-5)), (12, .int (nI ly)), (11, .int (nI wh)), (10, .int (nI mu)), (9, .int (nI (V 1))), (7, .int (nI 0)), (6, .int (nI ru)), (5, .int (nI (V 0))), (0, .ref (ox 0)), (1, .ref dd), (2, .int (nI kd)), (3, .int av), (4, .int bv)]) hx hb dL_change_172 hl (by decide) rfl (fun ls hl => ?_)
        refine lv_iload hx hb dL_change_174 (lv_at hl 0 rfl) ?_
        refine lv_iload hx hb dL_change_176 (lv_at hl 2 rfl) ?_
        refine xIfNe C (tgt := 191) (by omega) dL_change_178 (by decide) (fun h_178 => ?_) (fun h_178 => ?_)
        · exfalso; omega
        · skip
          refine lv_iload hx hb dL_change_181 (lv_at hl 1 rfl) ?_
          refine xIfLe C (tgt := 191) (by omega) dL_change_183 (by decide) (fun h_183 => ?_) (fun h_183 => ?_)
          · exfalso; omega
          · skip
            refine lv_bipush (v := (-5)) hx hb dL_change_186 (by decide) ?_
            refine lv_goto (tgt := 205) hx hb dL_change_188 (by decide) ?_
            refine lv_icmp_ne (tgt := 250) hx hb dL_change_205 (by decide) (fun h_205 => ?_) (fun h_205 => ?_)
            · exact absurd rfl h_205
            · skip
              refine lv_iload hx hb dL_change_208 (lv_at hl 0 rfl) ?_
              refine lv_if_lt (tgt := 246) hx hb dL_change_210 (by decide) (fun h_210 => ?_) (fun h_210 => ?_)
              · skip
                refine lv_iconst (v := nI 1) hx hb dL_change_246 (by decide) ?_
                refine lv_goto (tgt := 251) hx hb dL_change_247 (by decide) ?_
                exact wRetZ hx hb hret (v := nI 1) (xNar1) (⟨rfl, V, kt, HH, g, rfl, hI, li_up hL, rfl⟩) hW dL_change_251 hlocks
              · exact absurd (by decide) h_210
      · skip
        refine qV C hN hA (S := (V, m, P, kt, HH, HB, LL)) (S2 := (V, m, P, kt, HH, HB, LL)) (v := (-4)) (As := [.int (nI ly), .int (nI wh), .int (nI cr), .int (nI de), .int (nI (1 + se))]) (rest := []) (fun u A1 h => k4_add xl D kA ox os ob ot (V, m, P, kt, HH, HB, LL) u hI h (nI ly) (nI wh) (nI cr) (nI de) (nI (1 + se)) A1) (e_addF hly2 hwh hq.1 (by omega) (by omega) (by omega) hq.2) (cwV 5 hts gL_change_X4_add rfl rfl rfl (by decide +kernel) ⟨Nat.le_of_ble_eq_true rfl, Nat.le_of_ble_eq_true rfl⟩) hW rfl hl.1 rfl (Nat.le_of_ble_eq_true rfl) dL_change_169 ⟨Nat.le_of_ble_eq_true rfl, Nat.le_of_ble_eq_true rfl⟩ (fun H locs hW => ?_)
        refine lv_istore (lv' := [(8, .int (-4)), (12, .int (nI ly)), (11, .int (nI wh)), (10, .int (nI mu)), (9, .int (nI (V 1))), (7, .int (nI 0)), (6, .int (nI ru)), (5, .int (nI (V 0))), (0, .ref (ox 0)), (1, .ref dd), (2, .int (nI kd)), (3, .int av), (4, .int bv)]) hx hb dL_change_172 hl (by decide) rfl (fun ls hl => ?_)
        refine lv_iload hx hb dL_change_174 (lv_at hl 0 rfl) ?_
        refine lv_iload hx hb dL_change_176 (lv_at hl 2 rfl) ?_
        refine xIfNe C (tgt := 191) (by omega) dL_change_178 (by decide) (fun h_178 => ?_) (fun h_178 => ?_)
        · skip
          refine lv_iload hx hb dL_change_191 (lv_at hl 7 rfl) ?_
          refine lv_bipush (v := nI 24) hx hb dL_change_193 (by decide) ?_
          refine xIcmpNe C (tgt := 203) (by omega) (by decide) dL_change_195 (by decide) (fun h_195 => ?_) (fun h_195 => ?_)
          · exfalso; omega
          · skip
            refine lv_bipush (v := (-4)) hx hb dL_change_198 (by decide) ?_
            refine lv_goto (tgt := 205) hx hb dL_change_200 (by decide) ?_
            refine lv_icmp_ne (tgt := 250) hx hb dL_change_205 (by decide) (fun h_205 => ?_) (fun h_205 => ?_)
            · exact absurd rfl h_205
            · skip
              refine lv_iload hx hb dL_change_208 (lv_at hl 0 rfl) ?_
              refine lv_if_lt (tgt := 246) hx hb dL_change_210 (by decide) (fun h_210 => ?_) (fun h_210 => ?_)
              · skip
                refine lv_iconst (v := nI 1) hx hb dL_change_246 (by decide) ?_
                refine lv_goto (tgt := 251) hx hb dL_change_247 (by decide) ?_
                exact wRetZ hx hb hret (v := nI 1) (xNar1) (⟨rfl, V, kt, HH, g, rfl, hI, li_up hL, rfl⟩) hW dL_change_251 hlocks
              · exact absurd (by decide) h_210
        · skip
          refine lv_iload hx hb dL_change_181 (lv_at hl 1 rfl) ?_
          refine xIfLe C (tgt := 191) (by omega) dL_change_183 (by decide) (fun h_183 => ?_) (fun h_183 => ?_)
          · skip
            refine lv_iload hx hb dL_change_191 (lv_at hl 7 rfl) ?_
            refine lv_bipush (v := nI 24) hx hb dL_change_193 (by decide) ?_
            refine xIcmpNe C (tgt := 203) (by omega) (by decide) dL_change_195 (by decide) (fun h_195 => ?_) (fun h_195 => ?_)
            · exfalso; omega
            · skip
              refine lv_bipush (v := (-4)) hx hb dL_change_198 (by decide) ?_
              refine lv_goto (tgt := 205) hx hb dL_change_200 (by decide) ?_
              refine lv_icmp_ne (tgt := 250) hx hb dL_change_205 (by decide) (fun h_205 => ?_) (fun h_205 => ?_)
              · exact absurd rfl h_205
              · skip
                refine lv_iload hx hb dL_change_208 (lv_at hl 0 rfl) ?_
                refine lv_if_lt (tgt := 246) hx hb dL_change_210 (by decide) (fun h_210 => ?_) (fun h_210 => ?_)
                · skip
                  refine lv_iconst (v := nI 1) hx hb dL_change_246 (by decide) ?_
                  refine lv_goto (tgt := 251) hx hb dL_change_247 (by decide) ?_
                  exact wRetZ hx hb hret (v := nI 1) (xNar1) (⟨rfl, V, kt, HH, g, rfl, hI, li_up hL, rfl⟩) hW dL_change_251 hlocks
                · exact absurd (by decide) h_210
          · exfalso; omega
      · skip
        have he_169 : opAdd (V, m, P, kt, HH, HB, LL) (nI ly) (nI wh) (nI cr) (nI de) (nI (1 + se)) = (nI (V 0), psS V (addV V ly wh cr de (1 + se)) m P kt HH HB LL) := e_add hly2 hwh hq.1 (by omega) (by omega) (by omega) hq.2
        have hI_169 : InvS (psS V (addV V ly wh cr de (1 + se)) m P kt HH HB LL) := inv_of (i_add hI) he_169
        refine qV C hN hA (S := (V, m, P, kt, HH, HB, LL)) (S2 := (psS V (addV V ly wh cr de (1 + se)) m P kt HH HB LL)) (v := nI (V 0)) (As := [.int (nI ly), .int (nI wh), .int (nI cr), .int (nI de), .int (nI (1 + se))]) (rest := []) (fun u A1 h => k4_add xl D kA ox os ob ot (V, m, P, kt, HH, HB, LL) u hI h (nI ly) (nI wh) (nI cr) (nI de) (nI (1 + se)) A1) (he_169) (cwV 5 hts gL_change_X4_add rfl rfl rfl (by decide +kernel) ⟨Nat.le_of_ble_eq_true rfl, Nat.le_of_ble_eq_true rfl⟩) hW rfl hl.1 rfl (Nat.le_of_ble_eq_true rfl) dL_change_169 ⟨Nat.le_of_ble_eq_true rfl, Nat.le_of_ble_eq_true rfl⟩ (fun H locs hW => ?_)
        refine lv_istore (lv' := [(8, .int (nI (V 0))), (12, .int (nI ly)), (11, .int (nI wh)), (10, .int (nI mu)), (9, .int (nI (V 1))), (7, .int (nI 0)), (6, .int (nI ru)), (5, .int (nI (V 0))), (0, .ref (ox 0)), (1, .ref dd), (2, .int (nI kd)), (3, .int av), (4, .int bv)]) hx hb dL_change_172 hl (by decide) rfl (fun ls hl => ?_)
        refine lv_iload hx hb dL_change_174 (lv_at hl 0 rfl) ?_
        refine lv_iload hx hb dL_change_176 (lv_at hl 2 rfl) ?_
        refine xIfNe C (tgt := 191) (by omega) dL_change_178 (by decide) (fun h_178 => ?_) (fun h_178 => ?_)
        · skip
          refine lv_iload hx hb dL_change_191 (lv_at hl 7 rfl) ?_
          refine lv_bipush (v := nI 24) hx hb dL_change_193 (by decide) ?_
          refine xIcmpNe C (tgt := 203) (by omega) (by decide) dL_change_195 (by decide) (fun h_195 => ?_) (fun h_195 => ?_)
          · skip
            refine lv_iload hx hb dL_change_203 (lv_at hl 7 rfl) ?_
            refine xIcmpNe C (tgt := 250) (by omega) (by omega) dL_change_205 (by decide) (fun h_205 => ?_) (fun h_205 => ?_)
            · exact absurd rfl h_205
            · skip
              refine lv_iload hx hb dL_change_208 (lv_at hl 0 rfl) ?_
              refine xIfLt C (tgt := 246) (by omega) dL_change_210 (by decide) ?_
              refine lv_aload_n hx hb dL_change_213 rfl (lv_at hl 8 rfl) ?_
              refine lv_iload hx hb dL_change_214 (lv_at hl 7 rfl) ?_
              refine lv_iconst (v := nI 1) hx hb dL_change_216 (by decide) ?_
              refine qVr C hN hA (S := (psS V (addV V ly wh cr de (1 + se)) m P kt HH HB LL)) (S2 := (psS V (addV V ly wh cr de (1 + se)) m P kt HH HB LL)) (v := nI wh) (As := [.int (nI (V 0)), .int (nI 1)]) (rest := []) (fun u A1 h => k4_rule xl D kA ox os ob ot (psS V (addV V ly wh cr de (1 + se)) m P kt HH HB LL) u hI_169 h (nI (V 0)) (nI 1) A1) ((e_rule hI_169.1.1 (Nat.lt_succ_self (V 0)) (by decide)).trans (by rw [ru_1, TV_add_new.2.1])) (cwV 2 hts gL_change_X4_rule rfl rfl rfl (by decide +kernel) ⟨Nat.le_of_ble_eq_true rfl, Nat.le_of_ble_eq_true rfl⟩) hW rfl hl.1 rfl (Nat.le_of_ble_eq_true rfl) dL_change_217 ⟨Nat.le_of_ble_eq_true rfl, Nat.le_of_ble_eq_true rfl⟩ (fun H locs hW => ?_)
              refine lv_iload hx hb dL_change_220 (lv_at hl 2 rfl) ?_
              refine xIcmpNe C (tgt := 250) (by omega) (by omega) dL_change_222 (by decide) (fun h_222 => ?_) (fun h_222 => ?_)
              · exact absurd rfl h_222
              · skip
                refine lv_aload_n hx hb dL_change_225 rfl (lv_at hl 8 rfl) ?_
                refine lv_iload hx hb dL_change_226 (lv_at hl 7 rfl) ?_
                refine lv_iconst (v := nI 4) hx hb dL_change_228 (by decide) ?_
                refine qVr C hN hA (S := (psS V (addV V ly wh cr de (1 + se)) m P kt HH HB LL)) (S2 := (psS V (addV V ly wh cr de (1 + se)) m P kt HH HB LL)) (v := nI (1 + se)) (As := [.int (nI (V 0)), .int (nI 4)]) (rest := []) (fun u A1 h => k4_rule xl D kA ox os ob ot (psS V (addV V ly wh cr de (1 + se)) m P kt HH HB LL) u hI_169 h (nI (V 0)) (nI 4) A1) ((e_rule hI_169.1.1 (Nat.lt_succ_self (V 0)) (by decide)).trans (by rw [ru_4, TV_add_new.2.2.2.2])) (cwV 2 hts gL_change_X4_rule rfl rfl rfl (by decide +kernel) ⟨Nat.le_of_ble_eq_true rfl, Nat.le_of_ble_eq_true rfl⟩) hW rfl hl.1 rfl (Nat.le_of_ble_eq_true rfl) dL_change_229 ⟨Nat.le_of_ble_eq_true rfl, Nat.le_of_ble_eq_true rfl⟩ (fun H locs hW => ?_)
                refine lv_iconst (v := nI 1) hx hb dL_change_232 (by decide) ?_
                refine lv_iload hx hb dL_change_233 (lv_at hl 12 rfl) ?_
                refine lv_iconst (v := nI 5) hx hb dL_change_235 (by decide) ?_
                refine lv_ishr hx hb dL_change_236 ?_
                refine lv_bipush (v := nI 9) hx hb dL_change_237 (by decide) ?_
                refine wSr0 C hN (As := [.int (bv >>> ((nI 5) &&& 31)), .int (nI 9)]) (rest := [.int (nI 1), .int (nI (1 + se))]) (v := nI (loN (bv >>> ((nI 5) &&& 31)) % 9)) (c_L_low xl D kA (bv >>> ((nI 5) &&& 31)) 9 (by decide) (by decide)) (va_cwS 2 hts gL_change_L_low rfl rfl rfl (by decide +kernel) ⟨Nat.le_of_ble_eq_true rfl, Nat.le_of_ble_eq_true rfl⟩) rfl hl.1 rfl (Nat.le_of_ble_eq_true rfl) dL_change_239 ⟨Nat.le_of_ble_eq_true rfl, Nat.le_of_ble_eq_true rfl⟩ ?_
                refine xTop (y := nI se) (by rw [hse]) ?_
                refine xIadd C dL_change_242 ?_
                refine xIcmpNe C (tgt := 250) (by omega) (by omega) dL_change_243 (by decide) (fun h_243 => ?_) (fun h_243 => ?_)
                · exact absurd rfl h_243
                · skip
                  refine lv_iconst (v := nI 1) hx hb dL_change_246 (by decide) ?_
                  refine lv_goto (tgt := 251) hx hb dL_change_247 (by decide) ?_
                  exact wRetZ hx hb hret (v := nI 1) (xNar1) (⟨rfl, _, _, _, _, rfl, hI_169, li_add hL (by omega), rfl⟩) hW dL_change_251 hlocks
          · exfalso; omega
        · skip
          refine lv_iload hx hb dL_change_181 (lv_at hl 1 rfl) ?_
          refine xIfLe C (tgt := 191) (by omega) dL_change_183 (by decide) (fun h_183 => ?_) (fun h_183 => ?_)
          · skip
            refine lv_iload hx hb dL_change_191 (lv_at hl 7 rfl) ?_
            refine lv_bipush (v := nI 24) hx hb dL_change_193 (by decide) ?_
            refine xIcmpNe C (tgt := 203) (by omega) (by decide) dL_change_195 (by decide) (fun h_195 => ?_) (fun h_195 => ?_)
            · skip
              refine lv_iload hx hb dL_change_203 (lv_at hl 7 rfl) ?_
              refine xIcmpNe C (tgt := 250) (by omega) (by omega) dL_change_205 (by decide) (fun h_205 => ?_) (fun h_205 => ?_)
              · exact absurd rfl h_205
              · skip
                refine lv_iload hx hb dL_change_208 (lv_at hl 0 rfl) ?_
                refine xIfLt C (tgt := 246) (by omega) dL_change_210 (by decide) ?_
                refine lv_aload_n hx hb dL_change_213 rfl (lv_at hl 8 rfl) ?_
                refine lv_iload hx hb dL_change_214 (lv_at hl 7 rfl) ?_
                refine lv_iconst (v := nI 1) hx hb dL_change_216 (by decide) ?_
                refine qVr C hN hA (S := (psS V (addV V ly wh cr de (1 + se)) m P kt HH HB LL)) (S2 := (psS V (addV V ly wh cr de (1 + se)) m P kt HH HB LL)) (v := nI wh) (As := [.int (nI (V 0)), .int (nI 1)]) (rest := []) (fun u A1 h => k4_rule xl D kA ox os ob ot (psS V (addV V ly wh cr de (1 + se)) m P kt HH HB LL) u hI_169 h (nI (V 0)) (nI 1) A1) ((e_rule hI_169.1.1 (Nat.lt_succ_self (V 0)) (by decide)).trans (by rw [ru_1, TV_add_new.2.1])) (cwV 2 hts gL_change_X4_rule rfl rfl rfl (by decide +kernel) ⟨Nat.le_of_ble_eq_true rfl, Nat.le_of_ble_eq_true rfl⟩) hW rfl hl.1 rfl (Nat.le_of_ble_eq_true rfl) dL_change_217 ⟨Nat.le_of_ble_eq_true rfl, Nat.le_of_ble_eq_true rfl⟩ (fun H locs hW => ?_)
                refine lv_iload hx hb dL_change_220 (lv_at hl 2 rfl) ?_
                refine xIcmpNe C (tgt := 250) (by omega) (by omega) dL_change_222 (by decide) (fun h_222 => ?_) (fun h_222 => ?_)
                · exact absurd rfl h_222
                · skip
                  refine lv_aload_n hx hb dL_change_225 rfl (lv_at hl 8 rfl) ?_
                  refine lv_iload hx hb dL_change_226 (lv_at hl 7 rfl) ?_
                  refine lv_iconst (v := nI 4) hx hb dL_change_228 (by decide) ?_
                  refine qVr C hN hA (S := (psS V (addV V ly wh cr de (1 + se)) m P kt HH HB LL)) (S2 := (psS V (addV V ly wh cr de (1 + se)) m P kt HH HB LL)) (v := nI (1 + se)) (As := [.int (nI (V 0)), .int (nI 4)]) (rest := []) (fun u A1 h => k4_rule xl D kA ox os ob ot (psS V (addV V ly wh cr de (1 + se)) m P kt HH HB LL) u hI_169 h (nI (V 0)) (nI 4) A1) ((e_rule hI_169.1.1 (Nat.lt_succ_self (V 0)) (by decide)).trans (by rw [ru_4, TV_add_new.2.2.2.2])) (cwV 2 hts gL_change_X4_rule rfl rfl rfl (by decide +kernel) ⟨Nat.le_of_ble_eq_true rfl, Nat.le_of_ble_eq_true rfl⟩) hW rfl hl.1 rfl (Nat.le_of_ble_eq_true rfl) dL_change_229 ⟨Nat.le_of_ble_eq_true rfl, Nat.le_of_ble_eq_true rfl⟩ (fun H locs hW => ?_)
                  refine lv_iconst (v := nI 1) hx hb dL_change_232 (by decide) ?_
                  refine lv_iload hx hb dL_change_233 (lv_at hl 12 rfl) ?_
                  refine lv_iconst (v := nI 5) hx hb dL_change_235 (by decide) ?_
                  refine lv_ishr hx hb dL_change_236 ?_
                  refine lv_bipush (v := nI 9) hx hb dL_change_237 (by decide) ?_
                  refine wSr0 C hN (As := [.int (bv >>> ((nI 5) &&& 31)), .int (nI 9)]) (rest := [.int (nI 1), .int (nI (1 + se))]) (v := nI (loN (bv >>> ((nI 5) &&& 31)) % 9)) (c_L_low xl D kA (bv >>> ((nI 5) &&& 31)) 9 (by decide) (by decide)) (va_cwS 2 hts gL_change_L_low rfl rfl rfl (by decide +kernel) ⟨Nat.le_of_ble_eq_true rfl, Nat.le_of_ble_eq_true rfl⟩) rfl hl.1 rfl (Nat.le_of_ble_eq_true rfl) dL_change_239 ⟨Nat.le_of_ble_eq_true rfl, Nat.le_of_ble_eq_true rfl⟩ ?_
                  refine xTop (y := nI se) (by rw [hse]) ?_
                  refine xIadd C dL_change_242 ?_
                  refine xIcmpNe C (tgt := 250) (by omega) (by omega) dL_change_243 (by decide) (fun h_243 => ?_) (fun h_243 => ?_)
                  · exact absurd rfl h_243
                  · skip
                    refine lv_iconst (v := nI 1) hx hb dL_change_246 (by decide) ?_
                    refine lv_goto (tgt := 251) hx hb dL_change_247 (by decide) ?_
                    exact wRetZ hx hb hret (v := nI 1) (xNar1) (⟨rfl, _, _, _, _, rfl, hI_169, li_add hL (by omega), rfl⟩) hW dL_change_251 hlocks
            · exfalso; omega
          · exfalso; omega
    refine xIfNe C (tgt := 117) (by omega) dL_change_110 (by decide) (fun h_110 => ?_) (fun h_110 => ?_)
    · skip
      refine lv_iconst (v := nI 1) hx hb dL_change_117 (by decide) ?_
      refine lv_iload hx hb dL_change_118 (lv_at hl 10 rfl) ?_
      refine lv_iconst (v := nI 3) hx hb dL_change_120 (by decide) ?_
      refine lv_ishr hx hb dL_change_121 ?_
      refine lv_iconst (v := nI 2) hx hb dL_change_122 (by decide) ?_
      refine wSr0 C hN (As := [.int (bv >>> ((nI 3) &&& 31)), .int (nI 2)]) (rest := [.int (nI 1)]) (v := nI (loN (bv >>> ((nI 3) &&& 31)) % 2)) (c_L_low xl D kA (bv >>> ((nI 3) &&& 31)) 2 (by decide) (by decide)) (va_cwS 2 hts gL_change_L_low rfl rfl rfl (by decide +kernel) ⟨Nat.le_of_ble_eq_true rfl, Nat.le_of_ble_eq_true rfl⟩) rfl hl.1 rfl (Nat.le_of_ble_eq_true rfl) dL_change_123 ⟨Nat.le_of_ble_eq_true rfl, Nat.le_of_ble_eq_true rfl⟩ ?_
      refine xIadd C dL_change_126 ?_
      exact J110 (1 + (loN (bv >>> ((nI 3) &&& 31)) % 2)) (by omega) _ _ hW _ (lv_sub hl [0, 1, 2, 3, 4, 5, 6, 7, 8, 9, 10] rfl)
    · skip
      refine lv_iconst (v := nI 0) hx hb dL_change_113 (by decide) ?_
      refine lv_goto (tgt := 127) hx hb dL_change_114 (by decide) ?_
      exact J110 0 (by omega) _ _ hW _ (lv_sub hl [0, 1, 2, 3, 4, 5, 6, 7, 8, 9, 10] rfl)
  have J480 : ∀ (H : Heap) (locs : List Loc) (_ : WX D kA A xs.heap ox os ob ot (V, m, P, kt, HH, HB, LL) [(dd, .inl (kA 0, 2, .inl (g)))] H locs) (ls : Array Slot) (_ : lv_has ls 15 [(10, .int (nI mu)), (9, .int (nI (V 1))), (8, .int (nI 0)), (7, .int (nI 0)), (6, .int (nI ru)), (5, .int (nI (V 0))), (0, .ref (ox 0)), (1, .ref dd), (2, .int (nI kd)), (3, .int av), (4, .int bv)]), W xp xl xe (headSpec wsL_change { frames := 9, cells := 14, slots := 212, locals := 207 }).room xs xm ([.ref (ox 0), .ref dd, .int (nI kd), .int av, .int bv] : List Value).toArray xbe xme xc H locs (0) (0) (MQ xbe (xQi D A (lawQ kA ox os ob ot (fun r S2 X2 => r = nI 1 ∧ ChR kA m P HB LL dd (t + 1) S2 X2))) ([.ref (ox 0), .ref dd, .int (nI kd), .int av, .int bv] : List Value).toArray xs 14 212 A) (F0 xm 480 ls []) := by
    intro H locs hW ls hl
    rcases (show V 1 = 10 ∨ V 1 ≠ 10 by omega) with hq | hq
    · skip
      refine lv_aload_n hx hb dL_change_480 rfl (lv_at hl 6 rfl) ?_
      refine lv_iload_n hx hb dL_change_481 rfl (lv_at hl 9 rfl) ?_
      refine lv_iconst (v := nI 5) hx hb dL_change_482 (by decide) ?_
      refine wSr0 C hN (As := [.int av, .int (nI 5)]) (rest := [.ref (ox 0)]) (v := nI (loN av % 5)) (c_L_low xl D kA av 5 (by decide) (by decide)) (va_cwS 2 hts gL_change_L_low rfl rfl rfl (by decide +kernel) ⟨Nat.le_of_ble_eq_true rfl, Nat.le_of_ble_eq_true rfl⟩) rfl hl.1 rfl (Nat.le_of_ble_eq_true rfl) dL_change_483 ⟨Nat.le_of_ble_eq_true rfl, Nat.le_of_ble_eq_true rfl⟩ ?_
      refine xTop (y := nI ly) (by rw [hly]) ?_
      refine lv_iload hx hb dL_change_486 (lv_at hl 10 rfl) ?_
      refine lv_bipush (v := nI 10) hx hb dL_change_488 (by decide) ?_
      refine wSr0 C hN (As := [.int bv, .int (nI 10)]) (rest := [.int (nI ly), .ref (ox 0)]) (v := nI (loN bv % 10)) (c_L_low xl D kA bv 10 (by decide) (by decide)) (va_cwS 2 hts gL_change_L_low rfl rfl rfl (by decide +kernel) ⟨Nat.le_of_ble_eq_true rfl, Nat.le_of_ble_eq_true rfl⟩) rfl hl.1 rfl (Nat.le_of_ble_eq_true rfl) dL_change_490 ⟨Nat.le_of_ble_eq_true rfl, Nat.le_of_ble_eq_true rfl⟩ ?_
      refine xTop (y := nI rj) (by rw [hrj]) ?_
      refine qV C hN hA (S := (V, m, P, kt, HH, HB, LL)) (S2 := (V, m, P, kt, HH, HB, LL)) (v := (-4)) (As := [.int (nI ly), .int (nI rj)]) (rest := []) (fun u A1 h => k4_join xl D kA ox os ob ot (V, m, P, kt, HH, HB, LL) u hI h (nI ly) (nI rj) A1) (e_joinF hly2 hrj2 hq) (cwV 2 hts gL_change_X4_join rfl rfl rfl (by decide +kernel) ⟨Nat.le_of_ble_eq_true rfl, Nat.le_of_ble_eq_true rfl⟩) hW rfl hl.1 rfl (Nat.le_of_ble_eq_true rfl) dL_change_493 ⟨Nat.le_of_ble_eq_true rfl, Nat.le_of_ble_eq_true rfl⟩ (fun H locs hW => ?_)
      refine lv_iload hx hb dL_change_496 (lv_at hl 1 rfl) ?_
      refine lv_bipush (v := nI 10) hx hb dL_change_498 (by decide) ?_
      refine xIcmpNe C (tgt := 508) (by omega) (by decide) dL_change_500 (by decide) (fun h_500 => ?_) (fun h_500 => ?_)
      · exfalso; omega
      · skip
        refine lv_bipush (v := (-4)) hx hb dL_change_503 (by decide) ?_
        refine lv_goto (tgt := 510) hx hb dL_change_505 (by decide) ?_
        refine lv_icmp_ne (tgt := 517) hx hb dL_change_510 (by decide) (fun h_510 => ?_) (fun h_510 => ?_)
        · exact absurd rfl h_510
        · skip
          refine lv_iconst (v := nI 1) hx hb dL_change_513 (by decide) ?_
          refine lv_goto (tgt := 518) hx hb dL_change_514 (by decide) ?_
          exact wRetZ hx hb hret (v := nI 1) (xNar1) (⟨rfl, V, kt, HH, g, rfl, hI, li_up hL, rfl⟩) hW dL_change_518 hlocks
    · skip
      refine lv_aload_n hx hb dL_change_480 rfl (lv_at hl 6 rfl) ?_
      refine lv_iload_n hx hb dL_change_481 rfl (lv_at hl 9 rfl) ?_
      refine lv_iconst (v := nI 5) hx hb dL_change_482 (by decide) ?_
      refine wSr0 C hN (As := [.int av, .int (nI 5)]) (rest := [.ref (ox 0)]) (v := nI (loN av % 5)) (c_L_low xl D kA av 5 (by decide) (by decide)) (va_cwS 2 hts gL_change_L_low rfl rfl rfl (by decide +kernel) ⟨Nat.le_of_ble_eq_true rfl, Nat.le_of_ble_eq_true rfl⟩) rfl hl.1 rfl (Nat.le_of_ble_eq_true rfl) dL_change_483 ⟨Nat.le_of_ble_eq_true rfl, Nat.le_of_ble_eq_true rfl⟩ ?_
      refine xTop (y := nI ly) (by rw [hly]) ?_
      refine lv_iload hx hb dL_change_486 (lv_at hl 10 rfl) ?_
      refine lv_bipush (v := nI 10) hx hb dL_change_488 (by decide) ?_
      refine wSr0 C hN (As := [.int bv, .int (nI 10)]) (rest := [.int (nI ly), .ref (ox 0)]) (v := nI (loN bv % 10)) (c_L_low xl D kA bv 10 (by decide) (by decide)) (va_cwS 2 hts gL_change_L_low rfl rfl rfl (by decide +kernel) ⟨Nat.le_of_ble_eq_true rfl, Nat.le_of_ble_eq_true rfl⟩) rfl hl.1 rfl (Nat.le_of_ble_eq_true rfl) dL_change_490 ⟨Nat.le_of_ble_eq_true rfl, Nat.le_of_ble_eq_true rfl⟩ ?_
      refine xTop (y := nI rj) (by rw [hrj]) ?_
      have he_493 : opJoin (V, m, P, kt, HH, HB, LL) (nI ly) (nI rj) = (nI (V 1), psS V (jnV V ly rj) m P kt HH HB LL) := e_join hly2 hrj2 hq
      have hI_493 : InvS (psS V (jnV V ly rj) m P kt HH HB LL) := inv_of (i_join hI) he_493
      refine qV C hN hA (S := (V, m, P, kt, HH, HB, LL)) (S2 := (psS V (jnV V ly rj) m P kt HH HB LL)) (v := nI (V 1)) (As := [.int (nI ly), .int (nI rj)]) (rest := []) (fun u A1 h => k4_join xl D kA ox os ob ot (V, m, P, kt, HH, HB, LL) u hI h (nI ly) (nI rj) A1) (he_493) (cwV 2 hts gL_change_X4_join rfl rfl rfl (by decide +kernel) ⟨Nat.le_of_ble_eq_true rfl, Nat.le_of_ble_eq_true rfl⟩) hW rfl hl.1 rfl (Nat.le_of_ble_eq_true rfl) dL_change_493 ⟨Nat.le_of_ble_eq_true rfl, Nat.le_of_ble_eq_true rfl⟩ (fun H locs hW => ?_)
      refine lv_iload hx hb dL_change_496 (lv_at hl 1 rfl) ?_
      refine lv_bipush (v := nI 10) hx hb dL_change_498 (by decide) ?_
      refine xIcmpNe C (tgt := 508) (by omega) (by decide) dL_change_500 (by decide) (fun h_500 => ?_) (fun h_500 => ?_)
      · skip
        refine lv_iload hx hb dL_change_508 (lv_at hl 1 rfl) ?_
        refine xIcmpNe C (tgt := 517) (by omega) (by omega) dL_change_510 (by decide) (fun h_510 => ?_) (fun h_510 => ?_)
        · exact absurd rfl h_510
        · skip
          refine lv_iconst (v := nI 1) hx hb dL_change_513 (by decide) ?_
          refine lv_goto (tgt := 518) hx hb dL_change_514 (by decide) ?_
          exact wRetZ hx hb hret (v := nI 1) (xNar1) (⟨rfl, _, _, _, _, rfl, hI_493, li_join hL, rfl⟩) hW dL_change_518 hlocks
      · exfalso; omega
  rcases (show kd = 0 ∨ kd = 1 ∨ kd = 2 ∨ kd = 3 ∨ kd = 4 ∨ kd = 5 ∨ kd = 6 ∨ kd = 7 ∨ kd = 8 ∨ kd = 9 ∨ kd = 10 ∨ kd = 11 ∨ 12 ≤ kd by omega) with e_42 | e_42 | e_42 | e_42 | e_42 | e_42 | e_42 | e_42 | e_42 | e_42 | e_42 | e_42 | e_42
  · refine xTabIn C (j := 0) (tgt := 104) (by rw [e_42]) dL_change_42 (by decide) (by decide) rfl (by decide) ?_
    exact J104  _ _ hW _ (lv_sub hl [0, 1, 2, 3, 4, 5, 6, 7, 8, 9, 10] rfl)
  · refine xTabIn C (j := 1) (tgt := 104) (by rw [e_42]) dL_change_42 (by decide) (by decide) rfl (by decide) ?_
    exact J104  _ _ hW _ (lv_sub hl [0, 1, 2, 3, 4, 5, 6, 7, 8, 9, 10] rfl)
  · refine xTabIn C (j := 2) (tgt := 104) (by rw [e_42]) dL_change_42 (by decide) (by decide) rfl (by decide) ?_
    exact J104  _ _ hW _ (lv_sub hl [0, 1, 2, 3, 4, 5, 6, 7, 8, 9, 10] rfl)
  · refine xTabIn C (j := 3) (tgt := 104) (by rw [e_42]) dL_change_42 (by decide) (by decide) rfl (by decide) ?_
    exact J104  _ _ hW _ (lv_sub hl [0, 1, 2, 3, 4, 5, 6, 7, 8, 9, 10] rfl)
  · refine xTabIn C (j := 4) (tgt := 104) (by rw [e_42]) dL_change_42 (by decide) (by decide) rfl (by decide) ?_
    exact J104  _ _ hW _ (lv_sub hl [0, 1, 2, 3, 4, 5, 6, 7, 8, 9, 10] rfl)
  · refine xTabIn C (j := 5) (tgt := 252) (by rw [e_42]) dL_change_42 (by decide) (by decide) rfl (by decide) ?_
    rcases Nat.lt_or_eq_of_le hru2 with hq | hq
    · skip
      refine lv_aload_n hx hb dL_change_252 rfl (lv_at hl 6 rfl) ?_
      refine lv_iload hx hb dL_change_253 (lv_at hl 4 rfl) ?_
      have he_255 : opStrike (V, m, P, kt, HH, HB, LL) (nI ru) = (nI (V 0 - 1), psS V (strV V ru) m P kt HH HB LL) := e_strike hV hq
      have hI_255 : InvS (psS V (strV V ru) m P kt HH HB LL) := inv_of (i_strike hI) he_255
      refine qV C hN hA (S := (V, m, P, kt, HH, HB, LL)) (S2 := (psS V (strV V ru) m P kt HH HB LL)) (v := nI (V 0 - 1)) (As := [.int (nI ru)]) (rest := []) (fun u A1 h => k4_strike xl D kA ox os ob ot (V, m, P, kt, HH, HB, LL) u hI h (nI ru) A1) (he_255) (cwV 1 hts gL_change_X4_strike rfl rfl rfl (by decide +kernel) ⟨Nat.le_of_ble_eq_true rfl, Nat.le_of_ble_eq_true rfl⟩) hW rfl hl.1 rfl (Nat.le_of_ble_eq_true rfl) dL_change_255 ⟨Nat.le_of_ble_eq_true rfl, Nat.le_of_ble_eq_true rfl⟩ (fun H locs hW => ?_)
      refine lv_iload hx hb dL_change_258 (lv_at hl 4 rfl) ?_
      refine lv_iload hx hb dL_change_260 (lv_at hl 5 rfl) ?_
      refine xIcmpNe C (tgt := 269) (by omega) (by omega) dL_change_262 (by decide) (fun h_262 => ?_) (fun h_262 => ?_)
      · skip
        refine lv_iload hx hb dL_change_269 (lv_at hl 5 rfl) ?_
        refine lv_iconst (v := nI 1) hx hb dL_change_271 (by decide) ?_
        refine xIsub C (by omega) dL_change_272 ?_
        refine xIcmpNe C (tgt := 280) (by omega) (by omega) dL_change_273 (by decide) (fun h_273 => ?_) (fun h_273 => ?_)
        · exact absurd rfl h_273
        · skip
          refine lv_iconst (v := nI 1) hx hb dL_change_276 (by decide) ?_
          refine lv_goto (tgt := 281) hx hb dL_change_277 (by decide) ?_
          exact wRetZ hx hb hret (v := nI 1) (xNar1) (⟨rfl, _, _, _, _, rfl, hI_255, li_str hL hV, rfl⟩) hW dL_change_281 hlocks
      · exfalso; omega
    · skip
      refine lv_aload_n hx hb dL_change_252 rfl (lv_at hl 6 rfl) ?_
      refine lv_iload hx hb dL_change_253 (lv_at hl 4 rfl) ?_
      refine qV C hN hA (S := (V, m, P, kt, HH, HB, LL)) (S2 := (V, m, P, kt, HH, HB, LL)) (v := (-1)) (As := [.int (nI ru)]) (rest := []) (fun u A1 h => k4_strike xl D kA ox os ob ot (V, m, P, kt, HH, HB, LL) u hI h (nI ru) A1) (by rw [hq]; exact e_strikeN hV) (cwV 1 hts gL_change_X4_strike rfl rfl rfl (by decide +kernel) ⟨Nat.le_of_ble_eq_true rfl, Nat.le_of_ble_eq_true rfl⟩) hW rfl hl.1 rfl (Nat.le_of_ble_eq_true rfl) dL_change_255 ⟨Nat.le_of_ble_eq_true rfl, Nat.le_of_ble_eq_true rfl⟩ (fun H locs hW => ?_)
      refine lv_iload hx hb dL_change_258 (lv_at hl 4 rfl) ?_
      refine lv_iload hx hb dL_change_260 (lv_at hl 5 rfl) ?_
      refine xIcmpNe C (tgt := 269) (by omega) (by omega) dL_change_262 (by decide) (fun h_262 => ?_) (fun h_262 => ?_)
      · exfalso; omega
      · skip
        refine lv_iconst (v := (-1)) hx hb dL_change_265 (by decide) ?_
        refine lv_goto (tgt := 273) hx hb dL_change_266 (by decide) ?_
        refine lv_icmp_ne (tgt := 280) hx hb dL_change_273 (by decide) (fun h_273 => ?_) (fun h_273 => ?_)
        · exact absurd rfl h_273
        · skip
          refine lv_iconst (v := nI 1) hx hb dL_change_276 (by decide) ?_
          refine lv_goto (tgt := 281) hx hb dL_change_277 (by decide) ?_
          exact wRetZ hx hb hret (v := nI 1) (xNar1) (⟨rfl, V, kt, HH, g, rfl, hI, li_up hL, rfl⟩) hW dL_change_281 hlocks
  · refine xTabIn C (j := 6) (tgt := 282) (by rw [e_42]) dL_change_42 (by decide) (by decide) rfl (by decide) ?_
    rcases Nat.lt_or_eq_of_le hru2 with hq | hq
    · skip
      have hwr := hWf ru hq
      refine lv_aload_n hx hb dL_change_282 rfl (lv_at hl 6 rfl) ?_
      refine lv_iload hx hb dL_change_283 (lv_at hl 4 rfl) ?_
      refine lv_iconst (v := nI 4) hx hb dL_change_285 (by decide) ?_
      refine qVr C hN hA (S := (V, m, P, kt, HH, HB, LL)) (S2 := (V, m, P, kt, HH, HB, LL)) (v := nI (TV V ru 4)) (As := [.int (nI ru), .int (nI 4)]) (rest := []) (fun u A1 h => k4_rule xl D kA ox os ob ot (V, m, P, kt, HH, HB, LL) u hI h (nI ru) (nI 4) A1) ((e_rule hV hq (by decide)).trans (by rw [ru_4])) (cwV 2 hts gL_change_X4_rule rfl rfl rfl (by decide +kernel) ⟨Nat.le_of_ble_eq_true rfl, Nat.le_of_ble_eq_true rfl⟩) hW rfl hl.1 rfl (Nat.le_of_ble_eq_true rfl) dL_change_286 ⟨Nat.le_of_ble_eq_true rfl, Nat.le_of_ble_eq_true rfl⟩ (fun H locs hW => ?_)
      refine lv_istore (lv' := [(7, .int (nI (TV V ru 4))), (10, .int (nI mu)), (9, .int (nI (V 1))), (8, .int (nI 0)), (6, .int (nI ru)), (5, .int (nI (V 0))), (0, .ref (ox 0)), (1, .ref dd), (2, .int (nI kd)), (3, .int av), (4, .int bv)]) hx hb dL_change_289 hl (by decide) rfl (fun ls hl => ?_)
      refine lv_aload_n hx hb dL_change_291 rfl (lv_at hl 6 rfl) ?_
      refine lv_iload hx hb dL_change_292 (lv_at hl 4 rfl) ?_
      refine lv_iconst (v := nI 1) hx hb dL_change_294 (by decide) ?_
      refine lv_iload hx hb dL_change_295 (lv_at hl 10 rfl) ?_
      refine lv_bipush (v := nI 9) hx hb dL_change_297 (by decide) ?_
      refine wSr0 C hN (As := [.int bv, .int (nI 9)]) (rest := [.int (nI 1), .int (nI ru), .ref (ox 0)]) (v := nI (loN bv % 9)) (c_L_low xl D kA bv 9 (by decide) (by decide)) (va_cwS 2 hts gL_change_L_low rfl rfl rfl (by decide +kernel) ⟨Nat.le_of_ble_eq_true rfl, Nat.le_of_ble_eq_true rfl⟩) rfl hl.1 rfl (Nat.le_of_ble_eq_true rfl) dL_change_299 ⟨Nat.le_of_ble_eq_true rfl, Nat.le_of_ble_eq_true rfl⟩ ?_
      refine xTop (y := nI sz) (by rw [hsz]) ?_
      refine xIadd C dL_change_302 ?_
      have he_303 : opSeal (V, m, P, kt, HH, HB, LL) (nI ru) (nI (1 + sz)) = (nI (TV V ru 4), psS V (updN V (9 + 5 * ru + 4) (1 + sz)) m P kt HH HB LL) := e_seal hV hq (by omega)
      have hI_303 : InvS (psS V (updN V (9 + 5 * ru + 4) (1 + sz)) m P kt HH HB LL) := inv_of (i_seal hI) he_303
      refine qV C hN hA (S := (V, m, P, kt, HH, HB, LL)) (S2 := (psS V (updN V (9 + 5 * ru + 4) (1 + sz)) m P kt HH HB LL)) (v := nI (TV V ru 4)) (As := [.int (nI ru), .int (nI (1 + sz))]) (rest := []) (fun u A1 h => k4_seal xl D kA ox os ob ot (V, m, P, kt, HH, HB, LL) u hI h (nI ru) (nI (1 + sz)) A1) (he_303) (cwV 2 hts gL_change_X4_seal rfl rfl rfl (by decide +kernel) ⟨Nat.le_of_ble_eq_true rfl, Nat.le_of_ble_eq_true rfl⟩) hW rfl hl.1 rfl (Nat.le_of_ble_eq_true rfl) dL_change_303 ⟨Nat.le_of_ble_eq_true rfl, Nat.le_of_ble_eq_true rfl⟩ (fun H locs hW => ?_)
      refine lv_iload hx hb dL_change_306 (lv_at hl 0 rfl) ?_
      refine xIcmpNe C (tgt := 339) (by omega) (by omega) dL_change_308 (by decide) (fun h_308 => ?_) (fun h_308 => ?_)
      · exact absurd rfl h_308
      · skip
        refine lv_iload hx hb dL_change_311 (lv_at hl 0 rfl) ?_
        refine xIfLt C (tgt := 335) (by omega) dL_change_313 (by decide) ?_
        refine lv_aload_n hx hb dL_change_316 rfl (lv_at hl 6 rfl) ?_
        refine lv_iload hx hb dL_change_317 (lv_at hl 4 rfl) ?_
        refine lv_iconst (v := nI 4) hx hb dL_change_319 (by decide) ?_
        refine qVr C hN hA (S := (psS V (updN V (9 + 5 * ru + 4) (1 + sz)) m P kt HH HB LL)) (S2 := (psS V (updN V (9 + 5 * ru + 4) (1 + sz)) m P kt HH HB LL)) (v := nI (1 + sz)) (As := [.int (nI ru), .int (nI 4)]) (rest := []) (fun u A1 h => k4_rule xl D kA ox os ob ot (psS V (updN V (9 + 5 * ru + 4) (1 + sz)) m P kt HH HB LL) u hI_303 h (nI ru) (nI 4) A1) ((e_rule (by rw [up_0]; exact hV) (by rw [up_0]; exact hq) (by decide)).trans (by rw [ru_4, tv_upd])) (cwV 2 hts gL_change_X4_rule rfl rfl rfl (by decide +kernel) ⟨Nat.le_of_ble_eq_true rfl, Nat.le_of_ble_eq_true rfl⟩) hW rfl hl.1 rfl (Nat.le_of_ble_eq_true rfl) dL_change_320 ⟨Nat.le_of_ble_eq_true rfl, Nat.le_of_ble_eq_true rfl⟩ (fun H locs hW => ?_)
        refine lv_iconst (v := nI 1) hx hb dL_change_323 (by decide) ?_
        refine lv_iload hx hb dL_change_324 (lv_at hl 10 rfl) ?_
        refine lv_bipush (v := nI 9) hx hb dL_change_326 (by decide) ?_
        refine wSr0 C hN (As := [.int bv, .int (nI 9)]) (rest := [.int (nI 1), .int (nI (1 + sz))]) (v := nI (loN bv % 9)) (c_L_low xl D kA bv 9 (by decide) (by decide)) (va_cwS 2 hts gL_change_L_low rfl rfl rfl (by decide +kernel) ⟨Nat.le_of_ble_eq_true rfl, Nat.le_of_ble_eq_true rfl⟩) rfl hl.1 rfl (Nat.le_of_ble_eq_true rfl) dL_change_328 ⟨Nat.le_of_ble_eq_true rfl, Nat.le_of_ble_eq_true rfl⟩ ?_
        refine xTop (y := nI sz) (by rw [hsz]) ?_
        refine xIadd C dL_change_331 ?_
        refine xIcmpNe C (tgt := 339) (by omega) (by omega) dL_change_332 (by decide) (fun h_332 => ?_) (fun h_332 => ?_)
        · exact absurd rfl h_332
        · skip
          refine lv_iconst (v := nI 1) hx hb dL_change_335 (by decide) ?_
          refine lv_goto (tgt := 340) hx hb dL_change_336 (by decide) ?_
          exact wRetZ hx hb hret (v := nI 1) (xNar1) (⟨rfl, _, _, _, _, rfl, hI_303, li_upd hL hV hq (by decide), rfl⟩) hW dL_change_340 hlocks
    · skip
      refine lv_aload_n hx hb dL_change_282 rfl (lv_at hl 6 rfl) ?_
      refine lv_iload hx hb dL_change_283 (lv_at hl 4 rfl) ?_
      refine lv_iconst (v := nI 4) hx hb dL_change_285 (by decide) ?_
      refine qVr C hN hA (S := (V, m, P, kt, HH, HB, LL)) (S2 := (V, m, P, kt, HH, HB, LL)) (v := (-1)) (As := [.int (nI ru), .int (nI 4)]) (rest := []) (fun u A1 h => k4_rule xl D kA ox os ob ot (V, m, P, kt, HH, HB, LL) u hI h (nI ru) (nI 4) A1) (by rw [hq]; exact e_ruleN hV) (cwV 2 hts gL_change_X4_rule rfl rfl rfl (by decide +kernel) ⟨Nat.le_of_ble_eq_true rfl, Nat.le_of_ble_eq_true rfl⟩) hW rfl hl.1 rfl (Nat.le_of_ble_eq_true rfl) dL_change_286 ⟨Nat.le_of_ble_eq_true rfl, Nat.le_of_ble_eq_true rfl⟩ (fun H locs hW => ?_)
      refine lv_istore (lv' := [(7, .int (-1)), (10, .int (nI mu)), (9, .int (nI (V 1))), (8, .int (nI 0)), (6, .int (nI ru)), (5, .int (nI (V 0))), (0, .ref (ox 0)), (1, .ref dd), (2, .int (nI kd)), (3, .int av), (4, .int bv)]) hx hb dL_change_289 hl (by decide) rfl (fun ls hl => ?_)
      refine lv_aload_n hx hb dL_change_291 rfl (lv_at hl 6 rfl) ?_
      refine lv_iload hx hb dL_change_292 (lv_at hl 4 rfl) ?_
      refine lv_iconst (v := nI 1) hx hb dL_change_294 (by decide) ?_
      refine lv_iload hx hb dL_change_295 (lv_at hl 10 rfl) ?_
      refine lv_bipush (v := nI 9) hx hb dL_change_297 (by decide) ?_
      refine wSr0 C hN (As := [.int bv, .int (nI 9)]) (rest := [.int (nI 1), .int (nI ru), .ref (ox 0)]) (v := nI (loN bv % 9)) (c_L_low xl D kA bv 9 (by decide) (by decide)) (va_cwS 2 hts gL_change_L_low rfl rfl rfl (by decide +kernel) ⟨Nat.le_of_ble_eq_true rfl, Nat.le_of_ble_eq_true rfl⟩) rfl hl.1 rfl (Nat.le_of_ble_eq_true rfl) dL_change_299 ⟨Nat.le_of_ble_eq_true rfl, Nat.le_of_ble_eq_true rfl⟩ ?_
      refine xTop (y := nI sz) (by rw [hsz]) ?_
      refine xIadd C dL_change_302 ?_
      refine qV C hN hA (S := (V, m, P, kt, HH, HB, LL)) (S2 := (V, m, P, kt, HH, HB, LL)) (v := (-1)) (As := [.int (nI ru), .int (nI (1 + sz))]) (rest := []) (fun u A1 h => k4_seal xl D kA ox os ob ot (V, m, P, kt, HH, HB, LL) u hI h (nI ru) (nI (1 + sz)) A1) (by rw [hq]; exact e_sealN hV) (cwV 2 hts gL_change_X4_seal rfl rfl rfl (by decide +kernel) ⟨Nat.le_of_ble_eq_true rfl, Nat.le_of_ble_eq_true rfl⟩) hW rfl hl.1 rfl (Nat.le_of_ble_eq_true rfl) dL_change_303 ⟨Nat.le_of_ble_eq_true rfl, Nat.le_of_ble_eq_true rfl⟩ (fun H locs hW => ?_)
      refine lv_iload hx hb dL_change_306 (lv_at hl 0 rfl) ?_
      refine lv_icmp_ne (tgt := 339) hx hb dL_change_308 (by decide) (fun h_308 => ?_) (fun h_308 => ?_)
      · exact absurd rfl h_308
      · skip
        refine lv_iload hx hb dL_change_311 (lv_at hl 0 rfl) ?_
        refine lv_if_lt (tgt := 335) hx hb dL_change_313 (by decide) (fun h_313 => ?_) (fun h_313 => ?_)
        · skip
          refine lv_iconst (v := nI 1) hx hb dL_change_335 (by decide) ?_
          refine lv_goto (tgt := 340) hx hb dL_change_336 (by decide) ?_
          exact wRetZ hx hb hret (v := nI 1) (xNar1) (⟨rfl, V, kt, HH, g, rfl, hI, li_up hL, rfl⟩) hW dL_change_340 hlocks
        · exact absurd (by decide) h_313
  · refine xTabIn C (j := 7) (tgt := 341) (by rw [e_42]) dL_change_42 (by decide) (by decide) rfl (by decide) ?_
    rcases (show (ru < V 0 ∧ (TV V ru 1 = 0 ∧ 0 < lz)) ∨ (ru < V 0 ∧ ¬ (TV V ru 1 = 0 ∧ 0 < lz)) ∨ ru = V 0 by omega) with hq | hq | hq
    · skip
      have hwr := hWf ru hq.1
      refine lv_aload_n hx hb dL_change_341 rfl (lv_at hl 6 rfl) ?_
      refine lv_iload hx hb dL_change_342 (lv_at hl 4 rfl) ?_
      refine lv_iconst (v := nI 0) hx hb dL_change_344 (by decide) ?_
      refine qVr C hN hA (S := (V, m, P, kt, HH, HB, LL)) (S2 := (V, m, P, kt, HH, HB, LL)) (v := nI (TV V ru 0)) (As := [.int (nI ru), .int (nI 0)]) (rest := []) (fun u A1 h => k4_rule xl D kA ox os ob ot (V, m, P, kt, HH, HB, LL) u hI h (nI ru) (nI 0) A1) ((e_rule hV hq.1 (by decide)).trans (by rw [ru_0])) (cwV 2 hts gL_change_X4_rule rfl rfl rfl (by decide +kernel) ⟨Nat.le_of_ble_eq_true rfl, Nat.le_of_ble_eq_true rfl⟩) hW rfl hl.1 rfl (Nat.le_of_ble_eq_true rfl) dL_change_345 ⟨Nat.le_of_ble_eq_true rfl, Nat.le_of_ble_eq_true rfl⟩ (fun H locs hW => ?_)
      refine lv_istore (lv' := [(7, .int (nI (TV V ru 0))), (10, .int (nI mu)), (9, .int (nI (V 1))), (8, .int (nI 0)), (6, .int (nI ru)), (5, .int (nI (V 0))), (0, .ref (ox 0)), (1, .ref dd), (2, .int (nI kd)), (3, .int av), (4, .int bv)]) hx hb dL_change_348 hl (by decide) rfl (fun ls hl => ?_)
      refine lv_aload_n hx hb dL_change_350 rfl (lv_at hl 6 rfl) ?_
      refine lv_iload hx hb dL_change_351 (lv_at hl 4 rfl) ?_
      refine lv_iload hx hb dL_change_353 (lv_at hl 10 rfl) ?_
      refine lv_iconst (v := nI 5) hx hb dL_change_355 (by decide) ?_
      refine wSr0 C hN (As := [.int bv, .int (nI 5)]) (rest := [.int (nI ru), .ref (ox 0)]) (v := nI (loN bv % 5)) (c_L_low xl D kA bv 5 (by decide) (by decide)) (va_cwS 2 hts gL_change_L_low rfl rfl rfl (by decide +kernel) ⟨Nat.le_of_ble_eq_true rfl, Nat.le_of_ble_eq_true rfl⟩) rfl hl.1 rfl (Nat.le_of_ble_eq_true rfl) dL_change_356 ⟨Nat.le_of_ble_eq_true rfl, Nat.le_of_ble_eq_true rfl⟩ ?_
      refine xTop (y := nI lz) (by rw [hlz]) ?_
      refine qV C hN hA (S := (V, m, P, kt, HH, HB, LL)) (S2 := (V, m, P, kt, HH, HB, LL)) (v := (-5)) (As := [.int (nI ru), .int (nI lz)]) (rest := []) (fun u A1 h => k4_move xl D kA ox os ob ot (V, m, P, kt, HH, HB, LL) u hI h (nI ru) (nI lz) A1) (e_moveP hV hq.1 hlz2 hq.2) (cwV 2 hts gL_change_X4_move rfl rfl rfl (by decide +kernel) ⟨Nat.le_of_ble_eq_true rfl, Nat.le_of_ble_eq_true rfl⟩) hW rfl hl.1 rfl (Nat.le_of_ble_eq_true rfl) dL_change_359 ⟨Nat.le_of_ble_eq_true rfl, Nat.le_of_ble_eq_true rfl⟩ (fun H locs hW => ?_)
      refine lv_istore (lv' := [(8, .int (-5)), (7, .int (nI (TV V ru 0))), (10, .int (nI mu)), (9, .int (nI (V 1))), (6, .int (nI ru)), (5, .int (nI (V 0))), (0, .ref (ox 0)), (1, .ref dd), (2, .int (nI kd)), (3, .int av), (4, .int bv)]) hx hb dL_change_362 hl (by decide) rfl (fun ls hl => ?_)
      refine lv_iload hx hb dL_change_364 (lv_at hl 0 rfl) ?_
      refine lv_iload hx hb dL_change_366 (lv_at hl 1 rfl) ?_
      refine xIfLt C (tgt := 395) (by omega) dL_change_368 (by decide) ?_
      refine lv_aload_n hx hb dL_change_371 rfl (lv_at hl 6 rfl) ?_
      refine lv_iload hx hb dL_change_372 (lv_at hl 4 rfl) ?_
      refine lv_iconst (v := nI 1) hx hb dL_change_374 (by decide) ?_
      refine qVr C hN hA (S := (V, m, P, kt, HH, HB, LL)) (S2 := (V, m, P, kt, HH, HB, LL)) (v := nI (TV V ru 1)) (As := [.int (nI ru), .int (nI 1)]) (rest := [.int (-5)]) (fun u A1 h => k4_rule xl D kA ox os ob ot (V, m, P, kt, HH, HB, LL) u hI h (nI ru) (nI 1) A1) ((e_rule hV hq.1 (by decide)).trans (by rw [ru_1])) (cwV 2 hts gL_change_X4_rule rfl rfl rfl (by decide +kernel) ⟨Nat.le_of_ble_eq_true rfl, Nat.le_of_ble_eq_true rfl⟩) hW rfl hl.1 rfl (Nat.le_of_ble_eq_true rfl) dL_change_375 ⟨Nat.le_of_ble_eq_true rfl, Nat.le_of_ble_eq_true rfl⟩ (fun H locs hW => ?_)
      refine xIfNe C (tgt := 395) (by omega) dL_change_378 (by decide) (fun h_378 => ?_) (fun h_378 => ?_)
      · exfalso; omega
      · skip
        refine lv_iload hx hb dL_change_381 (lv_at hl 10 rfl) ?_
        refine lv_iconst (v := nI 5) hx hb dL_change_383 (by decide) ?_
        refine wSr0 C hN (As := [.int bv, .int (nI 5)]) (rest := [.int (-5)]) (v := nI (loN bv % 5)) (c_L_low xl D kA bv 5 (by decide) (by decide)) (va_cwS 2 hts gL_change_L_low rfl rfl rfl (by decide +kernel) ⟨Nat.le_of_ble_eq_true rfl, Nat.le_of_ble_eq_true rfl⟩) rfl hl.1 rfl (Nat.le_of_ble_eq_true rfl) dL_change_384 ⟨Nat.le_of_ble_eq_true rfl, Nat.le_of_ble_eq_true rfl⟩ ?_
        refine xTop (y := nI lz) (by rw [hlz]) ?_
        refine xIfLe C (tgt := 395) (by omega) dL_change_387 (by decide) (fun h_387 => ?_) (fun h_387 => ?_)
        · exfalso; omega
        · skip
          refine lv_bipush (v := (-5)) hx hb dL_change_390 (by decide) ?_
          refine lv_goto (tgt := 397) hx hb dL_change_392 (by decide) ?_
          refine lv_icmp_ne (tgt := 404) hx hb dL_change_397 (by decide) (fun h_397 => ?_) (fun h_397 => ?_)
          · exact absurd rfl h_397
          · skip
            refine lv_iconst (v := nI 1) hx hb dL_change_400 (by decide) ?_
            refine lv_goto (tgt := 405) hx hb dL_change_401 (by decide) ?_
            exact wRetZ hx hb hret (v := nI 1) (xNar1) (⟨rfl, V, kt, HH, g, rfl, hI, li_up hL, rfl⟩) hW dL_change_405 hlocks
    · skip
      have hwr := hWf ru hq.1
      refine lv_aload_n hx hb dL_change_341 rfl (lv_at hl 6 rfl) ?_
      refine lv_iload hx hb dL_change_342 (lv_at hl 4 rfl) ?_
      refine lv_iconst (v := nI 0) hx hb dL_change_344 (by decide) ?_
      refine qVr C hN hA (S := (V, m, P, kt, HH, HB, LL)) (S2 := (V, m, P, kt, HH, HB, LL)) (v := nI (TV V ru 0)) (As := [.int (nI ru), .int (nI 0)]) (rest := []) (fun u A1 h => k4_rule xl D kA ox os ob ot (V, m, P, kt, HH, HB, LL) u hI h (nI ru) (nI 0) A1) ((e_rule hV hq.1 (by decide)).trans (by rw [ru_0])) (cwV 2 hts gL_change_X4_rule rfl rfl rfl (by decide +kernel) ⟨Nat.le_of_ble_eq_true rfl, Nat.le_of_ble_eq_true rfl⟩) hW rfl hl.1 rfl (Nat.le_of_ble_eq_true rfl) dL_change_345 ⟨Nat.le_of_ble_eq_true rfl, Nat.le_of_ble_eq_true rfl⟩ (fun H locs hW => ?_)
      refine lv_istore (lv' := [(7, .int (nI (TV V ru 0))), (10, .int (nI mu)), (9, .int (nI (V 1))), (8, .int (nI 0)), (6, .int (nI ru)), (5, .int (nI (V 0))), (0, .ref (ox 0)), (1, .ref dd), (2, .int (nI kd)), (3, .int av), (4, .int bv)]) hx hb dL_change_348 hl (by decide) rfl (fun ls hl => ?_)
      refine lv_aload_n hx hb dL_change_350 rfl (lv_at hl 6 rfl) ?_
      refine lv_iload hx hb dL_change_351 (lv_at hl 4 rfl) ?_
      refine lv_iload hx hb dL_change_353 (lv_at hl 10 rfl) ?_
      refine lv_iconst (v := nI 5) hx hb dL_change_355 (by decide) ?_
      refine wSr0 C hN (As := [.int bv, .int (nI 5)]) (rest := [.int (nI ru), .ref (ox 0)]) (v := nI (loN bv % 5)) (c_L_low xl D kA bv 5 (by decide) (by decide)) (va_cwS 2 hts gL_change_L_low rfl rfl rfl (by decide +kernel) ⟨Nat.le_of_ble_eq_true rfl, Nat.le_of_ble_eq_true rfl⟩) rfl hl.1 rfl (Nat.le_of_ble_eq_true rfl) dL_change_356 ⟨Nat.le_of_ble_eq_true rfl, Nat.le_of_ble_eq_true rfl⟩ ?_
      refine xTop (y := nI lz) (by rw [hlz]) ?_
      have he_359 : opMove (V, m, P, kt, HH, HB, LL) (nI ru) (nI lz) = (nI (TV V ru 0), psS V (updN V (9 + 5 * ru + 0) lz) m P kt HH HB LL) := e_move hV hq.1 hlz2 hq.2
      have hI_359 : InvS (psS V (updN V (9 + 5 * ru + 0) lz) m P kt HH HB LL) := inv_of (i_move hI) he_359
      refine qV C hN hA (S := (V, m, P, kt, HH, HB, LL)) (S2 := (psS V (updN V (9 + 5 * ru + 0) lz) m P kt HH HB LL)) (v := nI (TV V ru 0)) (As := [.int (nI ru), .int (nI lz)]) (rest := []) (fun u A1 h => k4_move xl D kA ox os ob ot (V, m, P, kt, HH, HB, LL) u hI h (nI ru) (nI lz) A1) (he_359) (cwV 2 hts gL_change_X4_move rfl rfl rfl (by decide +kernel) ⟨Nat.le_of_ble_eq_true rfl, Nat.le_of_ble_eq_true rfl⟩) hW rfl hl.1 rfl (Nat.le_of_ble_eq_true rfl) dL_change_359 ⟨Nat.le_of_ble_eq_true rfl, Nat.le_of_ble_eq_true rfl⟩ (fun H locs hW => ?_)
      refine lv_istore (lv' := [(8, .int (nI (TV V ru 0))), (7, .int (nI (TV V ru 0))), (10, .int (nI mu)), (9, .int (nI (V 1))), (6, .int (nI ru)), (5, .int (nI (V 0))), (0, .ref (ox 0)), (1, .ref dd), (2, .int (nI kd)), (3, .int av), (4, .int bv)]) hx hb dL_change_362 hl (by decide) rfl (fun ls hl => ?_)
      refine lv_iload hx hb dL_change_364 (lv_at hl 0 rfl) ?_
      refine lv_iload hx hb dL_change_366 (lv_at hl 1 rfl) ?_
      refine xIfLt C (tgt := 395) (by omega) dL_change_368 (by decide) ?_
      refine lv_aload_n hx hb dL_change_371 rfl (lv_at hl 6 rfl) ?_
      refine lv_iload hx hb dL_change_372 (lv_at hl 4 rfl) ?_
      refine lv_iconst (v := nI 1) hx hb dL_change_374 (by decide) ?_
      refine qVr C hN hA (S := (psS V (updN V (9 + 5 * ru + 0) lz) m P kt HH HB LL)) (S2 := (psS V (updN V (9 + 5 * ru + 0) lz) m P kt HH HB LL)) (v := nI (TV V ru 1)) (As := [.int (nI ru), .int (nI 1)]) (rest := [.int (nI (TV V ru 0))]) (fun u A1 h => k4_rule xl D kA ox os ob ot (psS V (updN V (9 + 5 * ru + 0) lz) m P kt HH HB LL) u hI_359 h (nI ru) (nI 1) A1) ((e_rule (by rw [up_0]; exact hV) (by rw [up_0]; exact hq.1) (by decide)).trans (by rw [ru_1, tv_oth (w := 0) (u := 1) (by decide) (by decide) (by decide)])) (cwV 2 hts gL_change_X4_rule rfl rfl rfl (by decide +kernel) ⟨Nat.le_of_ble_eq_true rfl, Nat.le_of_ble_eq_true rfl⟩) hW rfl hl.1 rfl (Nat.le_of_ble_eq_true rfl) dL_change_375 ⟨Nat.le_of_ble_eq_true rfl, Nat.le_of_ble_eq_true rfl⟩ (fun H locs hW => ?_)
      refine xIfNe C (tgt := 395) (by omega) dL_change_378 (by decide) (fun h_378 => ?_) (fun h_378 => ?_)
      · skip
        refine lv_iload hx hb dL_change_395 (lv_at hl 1 rfl) ?_
        refine xIcmpNe C (tgt := 404) (by omega) (by omega) dL_change_397 (by decide) (fun h_397 => ?_) (fun h_397 => ?_)
        · exact absurd rfl h_397
        · skip
          refine lv_iconst (v := nI 1) hx hb dL_change_400 (by decide) ?_
          refine lv_goto (tgt := 405) hx hb dL_change_401 (by decide) ?_
          exact wRetZ hx hb hret (v := nI 1) (xNar1) (⟨rfl, _, _, _, _, rfl, hI_359, li_upd hL hV hq.1 (by decide), rfl⟩) hW dL_change_405 hlocks
      · skip
        refine lv_iload hx hb dL_change_381 (lv_at hl 10 rfl) ?_
        refine lv_iconst (v := nI 5) hx hb dL_change_383 (by decide) ?_
        refine wSr0 C hN (As := [.int bv, .int (nI 5)]) (rest := [.int (nI (TV V ru 0))]) (v := nI (loN bv % 5)) (c_L_low xl D kA bv 5 (by decide) (by decide)) (va_cwS 2 hts gL_change_L_low rfl rfl rfl (by decide +kernel) ⟨Nat.le_of_ble_eq_true rfl, Nat.le_of_ble_eq_true rfl⟩) rfl hl.1 rfl (Nat.le_of_ble_eq_true rfl) dL_change_384 ⟨Nat.le_of_ble_eq_true rfl, Nat.le_of_ble_eq_true rfl⟩ ?_
        refine xTop (y := nI lz) (by rw [hlz]) ?_
        refine xIfLe C (tgt := 395) (by omega) dL_change_387 (by decide) (fun h_387 => ?_) (fun h_387 => ?_)
        · skip
          refine lv_iload hx hb dL_change_395 (lv_at hl 1 rfl) ?_
          refine xIcmpNe C (tgt := 404) (by omega) (by omega) dL_change_397 (by decide) (fun h_397 => ?_) (fun h_397 => ?_)
          · exact absurd rfl h_397
          · skip
            refine lv_iconst (v := nI 1) hx hb dL_change_400 (by decide) ?_
            refine lv_goto (tgt := 405) hx hb dL_change_401 (by decide) ?_
            exact wRetZ hx hb hret (v := nI 1) (xNar1) (⟨rfl, _, _, _, _, rfl, hI_359, li_upd hL hV hq.1 (by decide), rfl⟩) hW dL_change_405 hlocks
        · exfalso; omega
    · skip
      refine lv_aload_n hx hb dL_change_341 rfl (lv_at hl 6 rfl) ?_
      refine lv_iload hx hb dL_change_342 (lv_at hl 4 rfl) ?_
      refine lv_iconst (v := nI 0) hx hb dL_change_344 (by decide) ?_
      refine qVr C hN hA (S := (V, m, P, kt, HH, HB, LL)) (S2 := (V, m, P, kt, HH, HB, LL)) (v := (-1)) (As := [.int (nI ru), .int (nI 0)]) (rest := []) (fun u A1 h => k4_rule xl D kA ox os ob ot (V, m, P, kt, HH, HB, LL) u hI h (nI ru) (nI 0) A1) (by rw [hq]; exact e_ruleN hV) (cwV 2 hts gL_change_X4_rule rfl rfl rfl (by decide +kernel) ⟨Nat.le_of_ble_eq_true rfl, Nat.le_of_ble_eq_true rfl⟩) hW rfl hl.1 rfl (Nat.le_of_ble_eq_true rfl) dL_change_345 ⟨Nat.le_of_ble_eq_true rfl, Nat.le_of_ble_eq_true rfl⟩ (fun H locs hW => ?_)
      refine lv_istore (lv' := [(7, .int (-1)), (10, .int (nI mu)), (9, .int (nI (V 1))), (8, .int (nI 0)), (6, .int (nI ru)), (5, .int (nI (V 0))), (0, .ref (ox 0)), (1, .ref dd), (2, .int (nI kd)), (3, .int av), (4, .int bv)]) hx hb dL_change_348 hl (by decide) rfl (fun ls hl => ?_)
      refine lv_aload_n hx hb dL_change_350 rfl (lv_at hl 6 rfl) ?_
      refine lv_iload hx hb dL_change_351 (lv_at hl 4 rfl) ?_
      refine lv_iload hx hb dL_change_353 (lv_at hl 10 rfl) ?_
      refine lv_iconst (v := nI 5) hx hb dL_change_355 (by decide) ?_
      refine wSr0 C hN (As := [.int bv, .int (nI 5)]) (rest := [.int (nI ru), .ref (ox 0)]) (v := nI (loN bv % 5)) (c_L_low xl D kA bv 5 (by decide) (by decide)) (va_cwS 2 hts gL_change_L_low rfl rfl rfl (by decide +kernel) ⟨Nat.le_of_ble_eq_true rfl, Nat.le_of_ble_eq_true rfl⟩) rfl hl.1 rfl (Nat.le_of_ble_eq_true rfl) dL_change_356 ⟨Nat.le_of_ble_eq_true rfl, Nat.le_of_ble_eq_true rfl⟩ ?_
      refine xTop (y := nI lz) (by rw [hlz]) ?_
      refine qV C hN hA (S := (V, m, P, kt, HH, HB, LL)) (S2 := (V, m, P, kt, HH, HB, LL)) (v := (-1)) (As := [.int (nI ru), .int (nI lz)]) (rest := []) (fun u A1 h => k4_move xl D kA ox os ob ot (V, m, P, kt, HH, HB, LL) u hI h (nI ru) (nI lz) A1) (by rw [hq]; exact e_moveN hV) (cwV 2 hts gL_change_X4_move rfl rfl rfl (by decide +kernel) ⟨Nat.le_of_ble_eq_true rfl, Nat.le_of_ble_eq_true rfl⟩) hW rfl hl.1 rfl (Nat.le_of_ble_eq_true rfl) dL_change_359 ⟨Nat.le_of_ble_eq_true rfl, Nat.le_of_ble_eq_true rfl⟩ (fun H locs hW => ?_)
      refine lv_istore (lv' := [(8, .int (-1)), (7, .int (-1)), (10, .int (nI mu)), (9, .int (nI (V 1))), (6, .int (nI ru)), (5, .int (nI (V 0))), (0, .ref (ox 0)), (1, .ref dd), (2, .int (nI kd)), (3, .int av), (4, .int bv)]) hx hb dL_change_362 hl (by decide) rfl (fun ls hl => ?_)
      refine lv_iload hx hb dL_change_364 (lv_at hl 0 rfl) ?_
      refine lv_iload hx hb dL_change_366 (lv_at hl 1 rfl) ?_
      refine lv_if_lt (tgt := 395) hx hb dL_change_368 (by decide) (fun h_368 => ?_) (fun h_368 => ?_)
      · skip
        refine lv_iload hx hb dL_change_395 (lv_at hl 1 rfl) ?_
        refine lv_icmp_ne (tgt := 404) hx hb dL_change_397 (by decide) (fun h_397 => ?_) (fun h_397 => ?_)
        · exact absurd rfl h_397
        · skip
          refine lv_iconst (v := nI 1) hx hb dL_change_400 (by decide) ?_
          refine lv_goto (tgt := 405) hx hb dL_change_401 (by decide) ?_
          exact wRetZ hx hb hret (v := nI 1) (xNar1) (⟨rfl, V, kt, HH, g, rfl, hI, li_up hL, rfl⟩) hW dL_change_405 hlocks
      · exact absurd (by decide) h_368
  · refine xTabIn C (j := 8) (tgt := 406) (by rw [e_42]) dL_change_42 (by decide) (by decide) rfl (by decide) ?_
    obtain ⟨td1, td2, td3, td4, td5, td6⟩ := td_all 25 V (by omega) hV hWf
    refine lv_aload_n hx hb dL_change_406 rfl (lv_at hl 6 rfl) ?_
    refine lv_bipush (v := nI 6) hx hb dL_change_407 (by decide) ?_
    refine qVr C hN hA (S := (V, m, P, kt, HH, HB, LL)) (S2 := (V, m, P, kt, HH, HB, LL)) (v := nI (trpT (V 0) (TV V))) (As := [.int (nI 6)]) (rest := []) (fun u A1 h => k4_count xl D kA ox os ob ot (V, m, P, kt, HH, HB, LL) u hI h (nI 6) A1) (e_count6) (cwV 1 hts gL_change_X4_count rfl rfl rfl (by decide +kernel) ⟨Nat.le_of_ble_eq_true rfl, Nat.le_of_ble_eq_true rfl⟩) hW rfl hl.1 rfl (Nat.le_of_ble_eq_true rfl) dL_change_409 ⟨Nat.le_of_ble_eq_true rfl, Nat.le_of_ble_eq_true rfl⟩ (fun H locs hW => ?_)
    refine lv_istore (lv' := [(13, .int (nI (trpT (V 0) (TV V)))), (10, .int (nI mu)), (9, .int (nI (V 1))), (8, .int (nI 0)), (7, .int (nI 0)), (6, .int (nI ru)), (5, .int (nI (V 0))), (0, .ref (ox 0)), (1, .ref dd), (2, .int (nI kd)), (3, .int av), (4, .int bv)]) hx hb dL_change_412 hl (by decide) rfl (fun ls hl => ?_)
    refine lv_aload_n hx hb dL_change_414 rfl (lv_at hl 7 rfl) ?_
    refine lv_iconst (v := nI 4) hx hb dL_change_415 (by decide) ?_
    refine qVr C hN hA (S := (V, m, P, kt, HH, HB, LL)) (S2 := (V, m, P, kt, HH, HB, LL)) (v := nI (cntN (V 0) (idB V))) (As := [.int (nI 4)]) (rest := []) (fun u A1 h => k4_count xl D kA ox os ob ot (V, m, P, kt, HH, HB, LL) u hI h (nI 4) A1) (e_count4) (cwV 1 hts gL_change_X4_count rfl rfl rfl (by decide +kernel) ⟨Nat.le_of_ble_eq_true rfl, Nat.le_of_ble_eq_true rfl⟩) hW rfl hl.1 rfl (Nat.le_of_ble_eq_true rfl) dL_change_416 ⟨Nat.le_of_ble_eq_true rfl, Nat.le_of_ble_eq_true rfl⟩ (fun H locs hW => ?_)
    refine lv_istore (lv' := [(14, .int (nI (cntN (V 0) (idB V)))), (13, .int (nI (trpT (V 0) (TV V)))), (10, .int (nI mu)), (9, .int (nI (V 1))), (8, .int (nI 0)), (7, .int (nI 0)), (6, .int (nI ru)), (5, .int (nI (V 0))), (0, .ref (ox 0)), (1, .ref dd), (2, .int (nI kd)), (3, .int av), (4, .int bv)]) hx hb dL_change_419 hl (by decide) rfl (fun ls hl => ?_)
    refine lv_aload_n hx hb dL_change_421 rfl (lv_at hl 8 rfl) ?_
    have he_422 : opTidy (V, m, P, kt, HH, HB, LL)  = (nI ((tdK 25 V).1), psS V ((tdK 25 V).2) m P kt HH HB LL) := e_tidy
    have hI_422 : InvS (psS V ((tdK 25 V).2) m P kt HH HB LL) := inv_of (i_tidy hI) he_422
    refine qV C hN hA (S := (V, m, P, kt, HH, HB, LL)) (S2 := (psS V ((tdK 25 V).2) m P kt HH HB LL)) (v := nI ((tdK 25 V).1)) (As := []) (rest := []) (fun u A1 h => k4_tidy xl D kA ox os ob ot (V, m, P, kt, HH, HB, LL) u hI h  A1) (he_422) (cwV 0 hts gL_change_X4_tidy rfl rfl rfl (by decide +kernel) ⟨Nat.le_of_ble_eq_true rfl, Nat.le_of_ble_eq_true rfl⟩) hW rfl hl.1 rfl (Nat.le_of_ble_eq_true rfl) dL_change_422 ⟨Nat.le_of_ble_eq_true rfl, Nat.le_of_ble_eq_true rfl⟩ (fun H locs hW => ?_)
    refine lv_istore (lv' := [(8, .int (nI ((tdK 25 V).1))), (14, .int (nI (cntN (V 0) (idB V)))), (13, .int (nI (trpT (V 0) (TV V)))), (10, .int (nI mu)), (9, .int (nI (V 1))), (7, .int (nI 0)), (6, .int (nI ru)), (5, .int (nI (V 0))), (0, .ref (ox 0)), (1, .ref dd), (2, .int (nI kd)), (3, .int av), (4, .int bv)]) hx hb dL_change_425 hl (by decide) rfl (fun ls hl => ?_)
    refine lv_iload hx hb dL_change_427 (lv_at hl 0 rfl) ?_
    refine lv_iload hx hb dL_change_429 (lv_at hl 1 rfl) ?_
    refine xIfLe C (tgt := 438) (by omega) dL_change_431 (by decide) (fun h_431 => ?_) (fun h_431 => ?_)
    · skip
      refine lv_iconst (v := nI 0) hx hb dL_change_438 (by decide) ?_
      refine xIcmpLt C (tgt := 478) (by omega) (by decide) dL_change_439 (by decide) (fun h_439 => ?_) (fun h_439 => ?_)
      · exfalso; omega
      · skip
        refine lv_aload_n hx hb dL_change_442 rfl (lv_at hl 8 rfl) ?_
        refine lv_iconst (v := nI 0) hx hb dL_change_443 (by decide) ?_
        refine qVr C hN hA (S := (psS V ((tdK 25 V).2) m P kt HH HB LL)) (S2 := (psS V ((tdK 25 V).2) m P kt HH HB LL)) (v := nI (V 0 - (tdK 25 V).1)) (As := [.int (nI 0)]) (rest := []) (fun u A1 h => k4_count xl D kA ox os ob ot (psS V ((tdK 25 V).2) m P kt HH HB LL) u hI_422 h (nI 0) A1) (e_count0.trans (by rw [td2])) (cwV 1 hts gL_change_X4_count rfl rfl rfl (by decide +kernel) ⟨Nat.le_of_ble_eq_true rfl, Nat.le_of_ble_eq_true rfl⟩) hW rfl hl.1 rfl (Nat.le_of_ble_eq_true rfl) dL_change_444 ⟨Nat.le_of_ble_eq_true rfl, Nat.le_of_ble_eq_true rfl⟩ (fun H locs hW => ?_)
        refine lv_iload hx hb dL_change_447 (lv_at hl 7 rfl) ?_
        refine lv_iload hx hb dL_change_449 (lv_at hl 0 rfl) ?_
        refine xIsub C (by omega) dL_change_451 ?_
        refine xIcmpNe C (tgt := 478) (by omega) (by omega) dL_change_452 (by decide) (fun h_452 => ?_) (fun h_452 => ?_)
        · exact absurd rfl h_452
        · skip
          refine lv_aload_n hx hb dL_change_455 rfl (lv_at hl 8 rfl) ?_
          refine lv_iconst (v := nI 4) hx hb dL_change_456 (by decide) ?_
          refine qVr C hN hA (S := (psS V ((tdK 25 V).2) m P kt HH HB LL)) (S2 := (psS V ((tdK 25 V).2) m P kt HH HB LL)) (v := nI 0) (As := [.int (nI 4)]) (rest := []) (fun u A1 h => k4_count xl D kA ox os ob ot (psS V ((tdK 25 V).2) m P kt HH HB LL) u hI_422 h (nI 4) A1) (e_count4.trans (by rw [td3])) (cwV 1 hts gL_change_X4_count rfl rfl rfl (by decide +kernel) ⟨Nat.le_of_ble_eq_true rfl, Nat.le_of_ble_eq_true rfl⟩) hW rfl hl.1 rfl (Nat.le_of_ble_eq_true rfl) dL_change_457 ⟨Nat.le_of_ble_eq_true rfl, Nat.le_of_ble_eq_true rfl⟩ (fun H locs hW => ?_)
          refine xIfNe C (tgt := 478) (by decide) dL_change_460 (by decide) (fun h_460 => ?_) (fun h_460 => ?_)
          · exact absurd h_460 (by decide)
          · skip
            refine lv_aload_n hx hb dL_change_463 rfl (lv_at hl 8 rfl) ?_
            refine lv_bipush (v := nI 6) hx hb dL_change_464 (by decide) ?_
            refine qVr C hN hA (S := (psS V ((tdK 25 V).2) m P kt HH HB LL)) (S2 := (psS V ((tdK 25 V).2) m P kt HH HB LL)) (v := nI (trpT (V 0) (TV V))) (As := [.int (nI 6)]) (rest := []) (fun u A1 h => k4_count xl D kA ox os ob ot (psS V ((tdK 25 V).2) m P kt HH HB LL) u hI_422 h (nI 6) A1) (e_count6.trans (by rw [td4])) (cwV 1 hts gL_change_X4_count rfl rfl rfl (by decide +kernel) ⟨Nat.le_of_ble_eq_true rfl, Nat.le_of_ble_eq_true rfl⟩) hW rfl hl.1 rfl (Nat.le_of_ble_eq_true rfl) dL_change_466 ⟨Nat.le_of_ble_eq_true rfl, Nat.le_of_ble_eq_true rfl⟩ (fun H locs hW => ?_)
            refine lv_iload hx hb dL_change_469 (lv_at hl 2 rfl) ?_
            refine xIcmpNe C (tgt := 478) (by omega) (by omega) dL_change_471 (by decide) (fun h_471 => ?_) (fun h_471 => ?_)
            · exact absurd rfl h_471
            · skip
              refine lv_iconst (v := nI 1) hx hb dL_change_474 (by decide) ?_
              refine lv_goto (tgt := 479) hx hb dL_change_475 (by decide) ?_
              exact wRetZ hx hb hret (v := nI 1) (xNar1) (⟨rfl, _, _, _, _, rfl, hI_422, li_cong hL td6, rfl⟩) hW dL_change_479 hlocks
    · skip
      have td5b := td5 h_431
      refine lv_iconst (v := nI 1) hx hb dL_change_434 (by decide) ?_
      refine lv_goto (tgt := 439) hx hb dL_change_435 (by decide) ?_
      refine xIcmpLt C (tgt := 478) (by omega) (by decide) dL_change_439 (by decide) (fun h_439 => ?_) (fun h_439 => ?_)
      · exfalso; omega
      · skip
        refine lv_aload_n hx hb dL_change_442 rfl (lv_at hl 8 rfl) ?_
        refine lv_iconst (v := nI 0) hx hb dL_change_443 (by decide) ?_
        refine qVr C hN hA (S := (psS V ((tdK 25 V).2) m P kt HH HB LL)) (S2 := (psS V ((tdK 25 V).2) m P kt HH HB LL)) (v := nI (V 0 - (tdK 25 V).1)) (As := [.int (nI 0)]) (rest := []) (fun u A1 h => k4_count xl D kA ox os ob ot (psS V ((tdK 25 V).2) m P kt HH HB LL) u hI_422 h (nI 0) A1) (e_count0.trans (by rw [td2])) (cwV 1 hts gL_change_X4_count rfl rfl rfl (by decide +kernel) ⟨Nat.le_of_ble_eq_true rfl, Nat.le_of_ble_eq_true rfl⟩) hW rfl hl.1 rfl (Nat.le_of_ble_eq_true rfl) dL_change_444 ⟨Nat.le_of_ble_eq_true rfl, Nat.le_of_ble_eq_true rfl⟩ (fun H locs hW => ?_)
        refine lv_iload hx hb dL_change_447 (lv_at hl 7 rfl) ?_
        refine lv_iload hx hb dL_change_449 (lv_at hl 0 rfl) ?_
        refine xIsub C (by omega) dL_change_451 ?_
        refine xIcmpNe C (tgt := 478) (by omega) (by omega) dL_change_452 (by decide) (fun h_452 => ?_) (fun h_452 => ?_)
        · exact absurd rfl h_452
        · skip
          refine lv_aload_n hx hb dL_change_455 rfl (lv_at hl 8 rfl) ?_
          refine lv_iconst (v := nI 4) hx hb dL_change_456 (by decide) ?_
          refine qVr C hN hA (S := (psS V ((tdK 25 V).2) m P kt HH HB LL)) (S2 := (psS V ((tdK 25 V).2) m P kt HH HB LL)) (v := nI 0) (As := [.int (nI 4)]) (rest := []) (fun u A1 h => k4_count xl D kA ox os ob ot (psS V ((tdK 25 V).2) m P kt HH HB LL) u hI_422 h (nI 4) A1) (e_count4.trans (by rw [td3])) (cwV 1 hts gL_change_X4_count rfl rfl rfl (by decide +kernel) ⟨Nat.le_of_ble_eq_true rfl, Nat.le_of_ble_eq_true rfl⟩) hW rfl hl.1 rfl (Nat.le_of_ble_eq_true rfl) dL_change_457 ⟨Nat.le_of_ble_eq_true rfl, Nat.le_of_ble_eq_true rfl⟩ (fun H locs hW => ?_)
          refine xIfNe C (tgt := 478) (by decide) dL_change_460 (by decide) (fun h_460 => ?_) (fun h_460 => ?_)
          · exact absurd h_460 (by decide)
          · skip
            refine lv_aload_n hx hb dL_change_463 rfl (lv_at hl 8 rfl) ?_
            refine lv_bipush (v := nI 6) hx hb dL_change_464 (by decide) ?_
            refine qVr C hN hA (S := (psS V ((tdK 25 V).2) m P kt HH HB LL)) (S2 := (psS V ((tdK 25 V).2) m P kt HH HB LL)) (v := nI (trpT (V 0) (TV V))) (As := [.int (nI 6)]) (rest := []) (fun u A1 h => k4_count xl D kA ox os ob ot (psS V ((tdK 25 V).2) m P kt HH HB LL) u hI_422 h (nI 6) A1) (e_count6.trans (by rw [td4])) (cwV 1 hts gL_change_X4_count rfl rfl rfl (by decide +kernel) ⟨Nat.le_of_ble_eq_true rfl, Nat.le_of_ble_eq_true rfl⟩) hW rfl hl.1 rfl (Nat.le_of_ble_eq_true rfl) dL_change_466 ⟨Nat.le_of_ble_eq_true rfl, Nat.le_of_ble_eq_true rfl⟩ (fun H locs hW => ?_)
            refine lv_iload hx hb dL_change_469 (lv_at hl 2 rfl) ?_
            refine xIcmpNe C (tgt := 478) (by omega) (by omega) dL_change_471 (by decide) (fun h_471 => ?_) (fun h_471 => ?_)
            · exact absurd rfl h_471
            · skip
              refine lv_iconst (v := nI 1) hx hb dL_change_474 (by decide) ?_
              refine lv_goto (tgt := 479) hx hb dL_change_475 (by decide) ?_
              exact wRetZ hx hb hret (v := nI 1) (xNar1) (⟨rfl, _, _, _, _, rfl, hI_422, li_cong hL td6, rfl⟩) hW dL_change_479 hlocks
  · refine xTabIn C (j := 9) (tgt := 480) (by rw [e_42]) dL_change_42 (by decide) (by decide) rfl (by decide) ?_
    exact J480  _ _ hW _ (lv_sub hl [0, 1, 2, 3, 4, 5, 6, 7, 8, 9, 10] rfl)
  · refine xTabIn C (j := 10) (tgt := 480) (by rw [e_42]) dL_change_42 (by decide) (by decide) rfl (by decide) ?_
    exact J480  _ _ hW _ (lv_sub hl [0, 1, 2, 3, 4, 5, 6, 7, 8, 9, 10] rfl)
  · refine xTabIn C (j := 11) (tgt := 519) (by rw [e_42]) dL_change_42 (by decide) (by decide) rfl (by decide) ?_
    refine lv_iload hx hb dL_change_519 (lv_at hl 10 rfl) ?_
    refine lv_iconst (v := nI 3) hx hb dL_change_521 (by decide) ?_
    refine lv_iand hx hb dL_change_522 ?_
    refine lv_if_ne (tgt := 552) hx hb dL_change_523 (by decide) (fun h_523 => ?_) (fun h_523 => ?_)
    · skip
      rcases Nat.lt_or_eq_of_le hmu2 with hq | hq
      · skip
        have hmk := hI.1.2.2.2 mu hq
        refine lv_aload_n hx hb dL_change_552 rfl (lv_at hl 6 rfl) ?_
        refine lv_iload hx hb dL_change_553 (lv_at hl 0 rfl) ?_
        refine lv_iconst (v := nI 1) hx hb dL_change_555 (by decide) ?_
        refine qVr C hN hA (S := (V, m, P, kt, HH, HB, LL)) (S2 := (V, m, P, kt, HH, HB, LL)) (v := nI (V (129 + 4 * mu + 1))) (As := [.int (nI mu), .int (nI 1)]) (rest := []) (fun u A1 h => k4_member xl D kA ox os ob ot (V, m, P, kt, HH, HB, LL) u hI h (nI mu) (nI 1) A1) ((e_member hM hq (by decide)).trans (by rw [me_1])) (cwV 2 hts gL_change_X4_member rfl rfl rfl (by decide +kernel) ⟨Nat.le_of_ble_eq_true rfl, Nat.le_of_ble_eq_true rfl⟩) hW rfl hl.1 rfl (Nat.le_of_ble_eq_true rfl) dL_change_556 ⟨Nat.le_of_ble_eq_true rfl, Nat.le_of_ble_eq_true rfl⟩ (fun H locs hW => ?_)
        refine lv_istore (lv' := [(7, .int (nI (V (129 + 4 * mu + 1)))), (10, .int (nI mu)), (9, .int (nI (V 1))), (8, .int (nI 0)), (6, .int (nI ru)), (5, .int (nI (V 0))), (0, .ref (ox 0)), (1, .ref dd), (2, .int (nI kd)), (3, .int av), (4, .int bv)]) hx hb dL_change_559 hl (by decide) rfl (fun ls hl => ?_)
        refine lv_aload_n hx hb dL_change_561 rfl (lv_at hl 6 rfl) ?_
        refine lv_iload hx hb dL_change_562 (lv_at hl 1 rfl) ?_
        refine lv_iload hx hb dL_change_564 (lv_at hl 10 rfl) ?_
        refine lv_iconst (v := nI 2) hx hb dL_change_566 (by decide) ?_
        refine lv_ishr hx hb dL_change_567 ?_
        refine lv_bipush (v := nI 10) hx hb dL_change_568 (by decide) ?_
        refine wSr0 C hN (As := [.int (bv >>> ((nI 2) &&& 31)), .int (nI 10)]) (rest := [.int (nI mu), .ref (ox 0)]) (v := nI (loN (bv >>> ((nI 2) &&& 31)) % 10)) (c_L_low xl D kA (bv >>> ((nI 2) &&& 31)) 10 (by decide) (by decide)) (va_cwS 2 hts gL_change_L_low rfl rfl rfl (by decide +kernel) ⟨Nat.le_of_ble_eq_true rfl, Nat.le_of_ble_eq_true rfl⟩) rfl hl.1 rfl (Nat.le_of_ble_eq_true rfl) dL_change_570 ⟨Nat.le_of_ble_eq_true rfl, Nat.le_of_ble_eq_true rfl⟩ ?_
        refine xTop (y := nI rk) (by rw [hrk]) ?_
        have he_573 : opRank (V, m, P, kt, HH, HB, LL) (nI mu) (nI rk) = (nI (V (129 + 4 * mu + 1)), psS V (updN V (129 + 4 * mu + 1) rk) m P kt HH HB LL) := e_rank hM hq hrk2
        have hI_573 : InvS (psS V (updN V (129 + 4 * mu + 1) rk) m P kt HH HB LL) := inv_of (i_rank hI) he_573
        refine qV C hN hA (S := (V, m, P, kt, HH, HB, LL)) (S2 := (psS V (updN V (129 + 4 * mu + 1) rk) m P kt HH HB LL)) (v := nI (V (129 + 4 * mu + 1))) (As := [.int (nI mu), .int (nI rk)]) (rest := []) (fun u A1 h => k4_rank xl D kA ox os ob ot (V, m, P, kt, HH, HB, LL) u hI h (nI mu) (nI rk) A1) (he_573) (cwV 2 hts gL_change_X4_rank rfl rfl rfl (by decide +kernel) ⟨Nat.le_of_ble_eq_true rfl, Nat.le_of_ble_eq_true rfl⟩) hW rfl hl.1 rfl (Nat.le_of_ble_eq_true rfl) dL_change_573 ⟨Nat.le_of_ble_eq_true rfl, Nat.le_of_ble_eq_true rfl⟩ (fun H locs hW => ?_)
        refine lv_iload hx hb dL_change_576 (lv_at hl 0 rfl) ?_
        refine xIcmpNe C (tgt := 585) (by omega) (by omega) dL_change_578 (by decide) (fun h_578 => ?_) (fun h_578 => ?_)
        · exact absurd rfl h_578
        · skip
          refine lv_iconst (v := nI 1) hx hb dL_change_581 (by decide) ?_
          refine lv_goto (tgt := 586) hx hb dL_change_582 (by decide) ?_
          exact wRetZ hx hb hret (v := nI 1) (xNar1) (⟨rfl, _, _, _, _, rfl, hI_573, li_mem hL, rfl⟩) hW dL_change_586 hlocks
      · skip
        refine lv_aload_n hx hb dL_change_552 rfl (lv_at hl 6 rfl) ?_
        refine lv_iload hx hb dL_change_553 (lv_at hl 0 rfl) ?_
        refine lv_iconst (v := nI 1) hx hb dL_change_555 (by decide) ?_
        refine qVr C hN hA (S := (V, m, P, kt, HH, HB, LL)) (S2 := (V, m, P, kt, HH, HB, LL)) (v := (-1)) (As := [.int (nI mu), .int (nI 1)]) (rest := []) (fun u A1 h => k4_member xl D kA ox os ob ot (V, m, P, kt, HH, HB, LL) u hI h (nI mu) (nI 1) A1) (by rw [hq]; exact e_memberN hM) (cwV 2 hts gL_change_X4_member rfl rfl rfl (by decide +kernel) ⟨Nat.le_of_ble_eq_true rfl, Nat.le_of_ble_eq_true rfl⟩) hW rfl hl.1 rfl (Nat.le_of_ble_eq_true rfl) dL_change_556 ⟨Nat.le_of_ble_eq_true rfl, Nat.le_of_ble_eq_true rfl⟩ (fun H locs hW => ?_)
        refine lv_istore (lv' := [(7, .int (-1)), (10, .int (nI mu)), (9, .int (nI (V 1))), (8, .int (nI 0)), (6, .int (nI ru)), (5, .int (nI (V 0))), (0, .ref (ox 0)), (1, .ref dd), (2, .int (nI kd)), (3, .int av), (4, .int bv)]) hx hb dL_change_559 hl (by decide) rfl (fun ls hl => ?_)
        refine lv_aload_n hx hb dL_change_561 rfl (lv_at hl 6 rfl) ?_
        refine lv_iload hx hb dL_change_562 (lv_at hl 1 rfl) ?_
        refine lv_iload hx hb dL_change_564 (lv_at hl 10 rfl) ?_
        refine lv_iconst (v := nI 2) hx hb dL_change_566 (by decide) ?_
        refine lv_ishr hx hb dL_change_567 ?_
        refine lv_bipush (v := nI 10) hx hb dL_change_568 (by decide) ?_
        refine wSr0 C hN (As := [.int (bv >>> ((nI 2) &&& 31)), .int (nI 10)]) (rest := [.int (nI mu), .ref (ox 0)]) (v := nI (loN (bv >>> ((nI 2) &&& 31)) % 10)) (c_L_low xl D kA (bv >>> ((nI 2) &&& 31)) 10 (by decide) (by decide)) (va_cwS 2 hts gL_change_L_low rfl rfl rfl (by decide +kernel) ⟨Nat.le_of_ble_eq_true rfl, Nat.le_of_ble_eq_true rfl⟩) rfl hl.1 rfl (Nat.le_of_ble_eq_true rfl) dL_change_570 ⟨Nat.le_of_ble_eq_true rfl, Nat.le_of_ble_eq_true rfl⟩ ?_
        refine xTop (y := nI rk) (by rw [hrk]) ?_
        refine qV C hN hA (S := (V, m, P, kt, HH, HB, LL)) (S2 := (V, m, P, kt, HH, HB, LL)) (v := (-1)) (As := [.int (nI mu), .int (nI rk)]) (rest := []) (fun u A1 h => k4_rank xl D kA ox os ob ot (V, m, P, kt, HH, HB, LL) u hI h (nI mu) (nI rk) A1) (by rw [hq]; exact e_rankN hM) (cwV 2 hts gL_change_X4_rank rfl rfl rfl (by decide +kernel) ⟨Nat.le_of_ble_eq_true rfl, Nat.le_of_ble_eq_true rfl⟩) hW rfl hl.1 rfl (Nat.le_of_ble_eq_true rfl) dL_change_573 ⟨Nat.le_of_ble_eq_true rfl, Nat.le_of_ble_eq_true rfl⟩ (fun H locs hW => ?_)
        refine lv_iload hx hb dL_change_576 (lv_at hl 0 rfl) ?_
        refine lv_icmp_ne (tgt := 585) hx hb dL_change_578 (by decide) (fun h_578 => ?_) (fun h_578 => ?_)
        · exact absurd rfl h_578
        · skip
          refine lv_iconst (v := nI 1) hx hb dL_change_581 (by decide) ?_
          refine lv_goto (tgt := 586) hx hb dL_change_582 (by decide) ?_
          exact wRetZ hx hb hret (v := nI 1) (xNar1) (⟨rfl, V, kt, HH, g, rfl, hI, li_up hL, rfl⟩) hW dL_change_586 hlocks
    · skip
      rcases Nat.lt_or_eq_of_le hmu2 with hq | hq
      · skip
        have hdi : V (129 + 4 * mu + 2) ≤ 1000 := Nat.le_trans (dn_at hq) (by omega)
        refine lv_aload_n hx hb dL_change_526 rfl (lv_at hl 6 rfl) ?_
        refine lv_iload hx hb dL_change_527 (lv_at hl 0 rfl) ?_
        refine lv_iconst (v := nI 3) hx hb dL_change_529 (by decide) ?_
        refine qVr C hN hA (S := (V, m, P, kt, HH, HB, LL)) (S2 := (V, m, P, kt, HH, HB, LL)) (v := nI (V (129 + 4 * mu + 2))) (As := [.int (nI mu), .int (nI 3)]) (rest := []) (fun u A1 h => k4_member xl D kA ox os ob ot (V, m, P, kt, HH, HB, LL) u hI h (nI mu) (nI 3) A1) ((e_member hM hq (by decide)).trans (by rw [me_3, dnF])) (cwV 2 hts gL_change_X4_member rfl rfl rfl (by decide +kernel) ⟨Nat.le_of_ble_eq_true rfl, Nat.le_of_ble_eq_true rfl⟩) hW rfl hl.1 rfl (Nat.le_of_ble_eq_true rfl) dL_change_530 ⟨Nat.le_of_ble_eq_true rfl, Nat.le_of_ble_eq_true rfl⟩ (fun H locs hW => ?_)
        refine lv_istore (lv' := [(7, .int (nI (V (129 + 4 * mu + 2)))), (10, .int (nI mu)), (9, .int (nI (V 1))), (8, .int (nI 0)), (6, .int (nI ru)), (5, .int (nI (V 0))), (0, .ref (ox 0)), (1, .ref dd), (2, .int (nI kd)), (3, .int av), (4, .int bv)]) hx hb dL_change_533 hl (by decide) rfl (fun ls hl => ?_)
        refine lv_aload_n hx hb dL_change_535 rfl (lv_at hl 6 rfl) ?_
        refine lv_iload hx hb dL_change_536 (lv_at hl 1 rfl) ?_
        have he_538 : opLeave (V, m, P, kt, HH, HB, LL) (nI mu) = (nI (V (129 + 4 * mu + 2)), psS V (lvV V mu) m P kt HH HB LL) := e_leave hM hq
        have hI_538 : InvS (psS V (lvV V mu) m P kt HH HB LL) := inv_of (i_leave hI) he_538
        refine qV C hN hA (S := (V, m, P, kt, HH, HB, LL)) (S2 := (psS V (lvV V mu) m P kt HH HB LL)) (v := nI (V (129 + 4 * mu + 2))) (As := [.int (nI mu)]) (rest := []) (fun u A1 h => k4_leave xl D kA ox os ob ot (V, m, P, kt, HH, HB, LL) u hI h (nI mu) A1) (he_538) (cwV 1 hts gL_change_X4_leave rfl rfl rfl (by decide +kernel) ⟨Nat.le_of_ble_eq_true rfl, Nat.le_of_ble_eq_true rfl⟩) hW rfl hl.1 rfl (Nat.le_of_ble_eq_true rfl) dL_change_538 ⟨Nat.le_of_ble_eq_true rfl, Nat.le_of_ble_eq_true rfl⟩ (fun H locs hW => ?_)
        refine lv_iload hx hb dL_change_541 (lv_at hl 0 rfl) ?_
        refine xIcmpNe C (tgt := 550) (by omega) (by omega) dL_change_543 (by decide) (fun h_543 => ?_) (fun h_543 => ?_)
        · exact absurd rfl h_543
        · skip
          refine lv_iconst (v := nI 1) hx hb dL_change_546 (by decide) ?_
          refine lv_goto (tgt := 551) hx hb dL_change_547 (by decide) ?_
          exact wRetZ hx hb hret (v := nI 1) (xNar1) (⟨rfl, _, _, _, _, rfl, hI_538, li_leave hL hq, rfl⟩) hW dL_change_551 hlocks
      · skip
        refine lv_aload_n hx hb dL_change_526 rfl (lv_at hl 6 rfl) ?_
        refine lv_iload hx hb dL_change_527 (lv_at hl 0 rfl) ?_
        refine lv_iconst (v := nI 3) hx hb dL_change_529 (by decide) ?_
        refine qVr C hN hA (S := (V, m, P, kt, HH, HB, LL)) (S2 := (V, m, P, kt, HH, HB, LL)) (v := (-1)) (As := [.int (nI mu), .int (nI 3)]) (rest := []) (fun u A1 h => k4_member xl D kA ox os ob ot (V, m, P, kt, HH, HB, LL) u hI h (nI mu) (nI 3) A1) (by rw [hq]; exact e_memberN hM) (cwV 2 hts gL_change_X4_member rfl rfl rfl (by decide +kernel) ⟨Nat.le_of_ble_eq_true rfl, Nat.le_of_ble_eq_true rfl⟩) hW rfl hl.1 rfl (Nat.le_of_ble_eq_true rfl) dL_change_530 ⟨Nat.le_of_ble_eq_true rfl, Nat.le_of_ble_eq_true rfl⟩ (fun H locs hW => ?_)
        refine lv_istore (lv' := [(7, .int (-1)), (10, .int (nI mu)), (9, .int (nI (V 1))), (8, .int (nI 0)), (6, .int (nI ru)), (5, .int (nI (V 0))), (0, .ref (ox 0)), (1, .ref dd), (2, .int (nI kd)), (3, .int av), (4, .int bv)]) hx hb dL_change_533 hl (by decide) rfl (fun ls hl => ?_)
        refine lv_aload_n hx hb dL_change_535 rfl (lv_at hl 6 rfl) ?_
        refine lv_iload hx hb dL_change_536 (lv_at hl 1 rfl) ?_
        refine qV C hN hA (S := (V, m, P, kt, HH, HB, LL)) (S2 := (V, m, P, kt, HH, HB, LL)) (v := (-1)) (As := [.int (nI mu)]) (rest := []) (fun u A1 h => k4_leave xl D kA ox os ob ot (V, m, P, kt, HH, HB, LL) u hI h (nI mu) A1) (by rw [hq]; exact e_leaveN hM) (cwV 1 hts gL_change_X4_leave rfl rfl rfl (by decide +kernel) ⟨Nat.le_of_ble_eq_true rfl, Nat.le_of_ble_eq_true rfl⟩) hW rfl hl.1 rfl (Nat.le_of_ble_eq_true rfl) dL_change_538 ⟨Nat.le_of_ble_eq_true rfl, Nat.le_of_ble_eq_true rfl⟩ (fun H locs hW => ?_)
        refine lv_iload hx hb dL_change_541 (lv_at hl 0 rfl) ?_
        refine lv_icmp_ne (tgt := 550) hx hb dL_change_543 (by decide) (fun h_543 => ?_) (fun h_543 => ?_)
        · exact absurd rfl h_543
        · skip
          refine lv_iconst (v := nI 1) hx hb dL_change_546 (by decide) ?_
          refine lv_goto (tgt := 551) hx hb dL_change_547 (by decide) ?_
          exact wRetZ hx hb hret (v := nI 1) (xNar1) (⟨rfl, V, kt, HH, g, rfl, hI, li_up hL, rfl⟩) hW dL_change_551 hlocks
  · refine lv_tableOut (tgt := 587) hx hb dL_change_42 (by rw [nI_toInt (show kd < 2 ^ 31 by omega)]; omega) (by decide) ?_
    refine lv_aload_n hx hb dL_change_587 rfl (lv_at hl 6 rfl) ?_
    refine lv_aload_n hx hb dL_change_588 rfl (lv_at hl 7 rfl) ?_
    refine lv_iload hx hb dL_change_589 (lv_at hl 0 rfl) ?_
    refine lv_iload hx hb dL_change_591 (lv_at hl 10 rfl) ?_
    refine lv_bipush (v := nI 6) hx hb dL_change_593 (by decide) ?_
    refine wSr0 C hN (As := [.int bv, .int (nI 6)]) (rest := [.int (nI mu), .ref dd, .ref (ox 0)]) (v := nI (loN bv % 6)) (c_L_low xl D kA bv 6 (by decide) (by decide)) (va_cwS 2 hts gL_change_L_low rfl rfl rfl (by decide +kernel) ⟨Nat.le_of_ble_eq_true rfl, Nat.le_of_ble_eq_true rfl⟩) rfl hl.1 rfl (Nat.le_of_ble_eq_true rfl) dL_change_595 ⟨Nat.le_of_ble_eq_true rfl, Nat.le_of_ble_eq_true rfl⟩ ?_
    refine qS C hN hA (As := [.ref (ox 0), .ref dd, .int (nI mu), .int (nI (loN bv % 6))]) (rest := []) (Xc := [(dd, .inl (kA 0, 2, .inl (g)))]) (Xr := []) (fun u A1 h => c_L_acts xl D kA ox os ob ot V m P kt HH HB LL hI dd g t hL (by omega) mu (loN bv % 6) hmu2 (lo_mod (by decide)) u h A1) (va_cwS 4 hts gL_change_L_acts rfl rfl rfl (by decide +kernel) ⟨Nat.le_of_ble_eq_true rfl, Nat.le_of_ble_eq_true rfl⟩) hW (List.Perm.refl _) rfl hl.1 rfl (Nat.le_of_ble_eq_true rfl) dL_change_598 ⟨Nat.le_of_ble_eq_true rfl, Nat.le_of_ble_eq_true rfl⟩ (fun r_598 S2 X2 H locs hR hW => ?_)
    obtain ⟨rfl, U9, kt9, HH9, g9, rfl, hI9, hL9, rfl⟩ := hR
    have hW : WX D kA A xs.heap ox os ob ot (U9, m, P, kt9, HH9, HB, LL) [(dd, .inl (kA 0, 2, .inl (g9)))] H locs := hW
    exact wRetZ hx hb hret (v := nI 1) (xNar1) (⟨rfl, _, _, _, _, rfl, hI9, hL9, rfl⟩) hW dL_change_601 hlocks
