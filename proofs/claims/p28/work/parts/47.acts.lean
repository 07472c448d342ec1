set_option maxHeartbeats 8000000 in
set_option maxRecDepth 100000 in
theorem c_L_acts (xl : Launch) (D : va_G) (kA : Nat → ClassId) (ox os ob ot : Nat → Nat) (V : Nat → Nat) (m : Nat) (P : Nat → Nat) (kt : Nat) (HH : Nat → Nat → Nat) (HB : Nat → Bool) (LL : Nat → Nat → Nat) (hI : InvS (V, m, P, kt, HH, HB, LL)) (dd : Nat) (g : Nat → Int32) (t : Nat) (hL : LI V g t) (ht : t ≤ 900) (i d : Nat) (hi : i ≤ V 1) (hd : d < 6) (u : va_W) (hc : ClsR kA ox os ob ot (V, m, P, kt, HH, HB, LL) u) (A : Nat → Prop) : Met xl yL_acts wsL_acts { frames := 8, cells := 14, slots := 212, locals := 178 } (va_Pc [.ref (ox 0), .ref dd, .int (nI i), .int (nI d)] (xPw D kA A (u ++ [(dd, .inl (kA 0, 2, .inl (g)))]))) (xQi D A (lawQ kA ox os ob ot (fun r S2 X2 => r = nI 1 ∧ ChR kA m P HB LL dd (t + 1) S2 X2))) 14 212 A := by
  refine Met.ofW (cc := cL_acts) (maxL := 10) (ret := (some .boolean)) (by decide) rfl ?_
  intro xp xe xs xm args xbe xme xc s₁ B hml hv
  obtain ⟨rfl, hP, hN, hD, hA⟩ := hv
  have hret := B.returns
  have C : CallFix xp xm xc cL_acts 10 xs ([.ref (ox 0), .ref dd, .int (nI i), .int (nI d)] : List Value).toArray wsL_acts RL := ⟨B.exec, B.bytes, hml, findClass_of_methodNamed B.named, atoms_spec (ws := wsL_acts) B.pre⟩
  have hlocks := B.notSynchronized
  obtain ⟨hx, hb, _, hown, hts⟩ := id C
  have hW : WX D kA A xs.heap ox os ob ot (V, m, P, kt, HH, HB, LL) [(dd, .inl (kA 0, 2, .inl (g)))] xs.heap [] := ⟨u, hc, hP, hD, va_S.rf⟩
  have hl := lv_entry ([.ref (ox 0), .ref dd, .int (nI i), .int (nI d)]) (n := 10) (Nat.le_of_ble_eq_true rfl)
  rw [lg_entry_eq]
  generalize (lg_sl ([.ref (ox 0), .ref dd, .int (nI i), .int (nI d)]) ++ List.replicate (10 - (lg_sl ([.ref (ox 0), .ref dd, .int (nI i), .int (nI d)])).length) Slot.unset).toArray = ls at hl ⊢
  have hl : lv_has ls 10 [(0, .ref (ox 0)), (1, .ref dd), (2, .int (nI i)), (3, .int (nI d))] := hl
  have hV : V 0 ≤ 24 := hI.1.1
  have hWf : WfT (V 0) (TV V) := hI.1.2.1
  have hM : V 1 ≤ 10 := hI.1.2.2.1
  obtain ⟨hg0, hg1, hdn, ht2, htr⟩ := id hL
  rcases Nat.lt_or_ge i (V 1) with hi2 | hi2
  · skip
    have hmk := hI.1.2.2.2 i hi2
    have hdi : V (129 + 4 * i + 2) ≤ 1000 := Nat.le_trans (dn_at hi2) (by omega)
    obtain ⟨rs, hrs⟩ : ∃ rs, rs = rsnT (V 0) (TV V) (V (129 + 4 * i)) d (V (129 + 4 * i + 1)) := ⟨_, rfl⟩
    have eW : opWhy (V, m, P, kt, HH, HB, LL) (nI (V (129 + 4 * i))) (nI d) (nI (V (129 + 4 * i + 1))) = (rs, (V, m, P, kt, HH, HB, LL)) := by rw [hrs]; exact e_why hmk.1 hd hmk.2
    have eA : opAct (V, m, P, kt, HH, HB, LL) (nI i) (nI d) = (rs, psS V (acV V i rs) m P kt HH HB LL) := by rw [hrs]; exact e_act hM hi2 hd
    have hrc : rs = -6 ∨ rs = nI 100 ∨ ∃ j, j < V 0 ∧ rs = nI j := by rw [hrs]; exact rsn_cases hWf
    refine lv_aload_n hx hb dL_acts_0 rfl (lv_at hl 0 rfl) ?_
    refine lv_iload_n hx hb dL_acts_1 rfl (lv_at hl 2 rfl) ?_
    refine lv_iconst (v := nI 0) hx hb dL_acts_2 (by decide) ?_
    refine qVr C hN hA (S := (V, m, P, kt, HH, HB, LL)) (S2 := (V, m, P, kt, HH, HB, LL)) (v := nI (V (129 + 4 * i))) (As := [.int (nI i), .int (nI 0)]) (rest := []) (fun u A1 h => k4_member xl D kA ox os ob ot (V, m, P, kt, HH, HB, LL) u hI h (nI i) (nI 0) A1) ((e_member hM hi2 (by decide)).trans (by rw [me_0])) (cwV 2 hts gL_acts_X4_member rfl rfl rfl (by decide +kernel) ⟨Nat.le_of_ble_eq_true rfl, Nat.le_of_ble_eq_true rfl⟩) hW rfl hl.1 rfl (Nat.le_of_ble_eq_true rfl) dL_acts_3 ⟨Nat.le_of_ble_eq_true rfl, Nat.le_of_ble_eq_true rfl⟩ (fun H locs hW => ?_)
    refine lv_istore (lv' := [(4, .int (nI (V (129 + 4 * i)))), (0, .ref (ox 0)), (1, .ref dd), (2, .int (nI i)), (3, .int (nI d))]) hx hb dL_acts_6 hl (by decide) rfl (fun ls hl => ?_)
    refine lv_iload hx hb dL_acts_8 (lv_at hl 0 rfl) ?_
    refine xIfGe C (tgt := 29) (by omega) dL_acts_10 (by decide) ?_
    refine lv_aload_n hx hb dL_acts_29 rfl (lv_at hl 1 rfl) ?_
    refine lv_iload hx hb dL_acts_30 (lv_at hl 0 rfl) ?_
    refine lv_iload_n hx hb dL_acts_32 rfl (lv_at hl 4 rfl) ?_
    refine lv_aload_n hx hb dL_acts_33 rfl (lv_at hl 1 rfl) ?_
    refine lv_iload_n hx hb dL_acts_34 rfl (lv_at hl 3 rfl) ?_
    refine lv_iconst (v := nI 1) hx hb dL_acts_35 (by decide) ?_
    refine qVr C hN hA (S := (V, m, P, kt, HH, HB, LL)) (S2 := (V, m, P, kt, HH, HB, LL)) (v := nI (V (129 + 4 * i + 1))) (As := [.int (nI i), .int (nI 1)]) (rest := [.int (nI d), .int (nI (V (129 + 4 * i))), .ref (ox 0)]) (fun u A1 h => k4_member xl D kA ox os ob ot (V, m, P, kt, HH, HB, LL) u hI h (nI i) (nI 1) A1) ((e_member hM hi2 (by decide)).trans (by rw [me_1])) (cwV 2 hts gL_acts_X4_member rfl rfl rfl (by decide +kernel) ⟨Nat.le_of_ble_eq_true rfl, Nat.le_of_ble_eq_true rfl⟩) hW rfl hl.1 rfl (Nat.le_of_ble_eq_true rfl) dL_acts_36 ⟨Nat.le_of_ble_eq_true rfl, Nat.le_of_ble_eq_true rfl⟩ (fun H locs hW => ?_)
    refine qVr C hN hA (S := (V, m, P, kt, HH, HB, LL)) (S2 := (V, m, P, kt, HH, HB, LL)) (v := rs) (As := [.int (nI (V (129 + 4 * i))), .int (nI d), .int (nI (V (129 + 4 * i + 1)))]) (rest := []) (fun u A1 h => k4_why xl D kA ox os ob ot (V, m, P, kt, HH, HB, LL) u hI h (nI (V (129 + 4 * i))) (nI d) (nI (V (129 + 4 * i + 1))) A1) (eW) (cwV 3 hts gL_acts_X4_why rfl rfl rfl (by decide +kernel) ⟨Nat.le_of_ble_eq_true rfl, Nat.le_of_ble_eq_true rfl⟩) hW rfl hl.1 rfl (Nat.le_of_ble_eq_true rfl) dL_acts_39 ⟨Nat.le_of_ble_eq_true rfl, Nat.le_of_ble_eq_true rfl⟩ (fun H locs hW => ?_)
    refine lv_istore (lv' := [(5, .int rs), (4, .int (nI (V (129 + 4 * i)))), (0, .ref (ox 0)), (1, .ref dd), (2, .int (nI i)), (3, .int (nI d))]) hx hb dL_acts_42 hl (by decide) rfl (fun ls hl => ?_)
    refine lv_iload hx hb dL_acts_44 (lv_at hl 0 rfl) ?_
    refine lv_bipush (v := (-6)) hx hb dL_acts_46 (by decide) ?_
    refine lv_icmp_ne (tgt := 56) hx hb dL_acts_48 (by decide) (fun h_48 => ?_) (fun h_48 => ?_)
    · skip
      refine lv_iload hx hb dL_acts_56 (lv_at hl 0 rfl) ?_
      refine lv_bipush (v := nI 100) hx hb dL_acts_58 (by decide) ?_
      refine lv_icmp_ne (tgt := 68) hx hb dL_acts_60 (by decide) (fun h_60 => ?_) (fun h_60 => ?_)
      · skip
        obtain ⟨j, hj, ej⟩ : ∃ j, j < V 0 ∧ rs = nI j := hrc.elim (fun h => absurd h h_48) (fun h => h.elim (fun h => absurd h h_60) (fun h => h))
        have hwj := hWf j hj
        rw [ej] at hl
        rw [ej, au_C (V := V) (i := i) (j := j) (by omega) (by omega)] at eA
        have hq2 : V (3 + TV V j 0) ≤ 1000 := Nat.le_trans (rf_at (by omega)) (by omega)
        refine lv_bipush (v := nI 9) hx hb dL_acts_68 (by decide) ?_
        refine lv_aload_n hx hb dL_acts_70 rfl (lv_at hl 2 rfl) ?_
        refine lv_iload hx hb dL_acts_71 (lv_at hl 0 rfl) ?_
        refine lv_iconst (v := nI 0) hx hb dL_acts_73 (by decide) ?_
        refine qVr C hN hA (S := (V, m, P, kt, HH, HB, LL)) (S2 := (V, m, P, kt, HH, HB, LL)) (v := nI (TV V j 0)) (As := [.int (nI j), .int (nI 0)]) (rest := [.int (nI 9)]) (fun u A1 h => k4_rule xl D kA ox os ob ot (V, m, P, kt, HH, HB, LL) u hI h (nI j) (nI 0) A1) ((e_rule hV hj (by decide)).trans (by rw [ru_0])) (cwV 2 hts gL_acts_X4_rule rfl rfl rfl (by decide +kernel) ⟨Nat.le_of_ble_eq_true rfl, Nat.le_of_ble_eq_true rfl⟩) hW rfl hl.1 rfl (Nat.le_of_ble_eq_true rfl) dL_acts_74 ⟨Nat.le_of_ble_eq_true rfl, Nat.le_of_ble_eq_true rfl⟩ (fun H locs hW => ?_)
        refine xIadd C dL_acts_77 ?_
        refine lv_istore (lv' := [(6, .int (nI (9 + (TV V j 0)))), (5, .int (nI j)), (4, .int (nI (V (129 + 4 * i)))), (0, .ref (ox 0)), (1, .ref dd), (2, .int (nI i)), (3, .int (nI d))]) hx hb dL_acts_78 hl (by decide) rfl (fun ls hl => ?_)
        refine lv_aload_n hx hb dL_acts_80 rfl (lv_at hl 3 rfl) ?_
        refine lv_iload hx hb dL_acts_81 (lv_at hl 0 rfl) ?_
        refine qVr C hN hA (S := (V, m, P, kt, HH, HB, LL)) (S2 := (V, m, P, kt, HH, HB, LL)) (v := nI (V (3 + TV V j 0))) (As := [.int (nI (9 + (TV V j 0)))]) (rest := []) (fun u A1 h => k4_count xl D kA ox os ob ot (V, m, P, kt, HH, HB, LL) u hI h (nI (9 + (TV V j 0))) A1) ((e_countR (by omega)).trans (by rw [show 9 + TV V j 0 - 6 = 3 + TV V j 0 by omega])) (cwV 1 hts gL_acts_X4_count rfl rfl rfl (by decide +kernel) ⟨Nat.le_of_ble_eq_true rfl, Nat.le_of_ble_eq_true rfl⟩) hW rfl hl.1 rfl (Nat.le_of_ble_eq_true rfl) dL_acts_83 ⟨Nat.le_of_ble_eq_true rfl, Nat.le_of_ble_eq_true rfl⟩ (fun H locs hW => ?_)
        refine lv_istore (lv' := [(7, .int (nI (V (3 + TV V j 0)))), (6, .int (nI (9 + (TV V j 0)))), (5, .int (nI j)), (4, .int (nI (V (129 + 4 * i)))), (0, .ref (ox 0)), (1, .ref dd), (2, .int (nI i)), (3, .int (nI d))]) hx hb dL_acts_86 hl (by decide) rfl (fun ls hl => ?_)
        refine lv_aload_n hx hb dL_acts_88 rfl (lv_at hl 4 rfl) ?_
        refine lv_iload_n hx hb dL_acts_89 rfl (lv_at hl 6 rfl) ?_
        refine lv_iconst (v := nI 3) hx hb dL_acts_90 (by decide) ?_
        refine qVr C hN hA (S := (V, m, P, kt, HH, HB, LL)) (S2 := (V, m, P, kt, HH, HB, LL)) (v := nI (V (129 + 4 * i + 2))) (As := [.int (nI i), .int (nI 3)]) (rest := []) (fun u A1 h => k4_member xl D kA ox os ob ot (V, m, P, kt, HH, HB, LL) u hI h (nI i) (nI 3) A1) ((e_member hM hi2 (by decide)).trans (by rw [me_3, dnF])) (cwV 2 hts gL_acts_X4_member rfl rfl rfl (by decide +kernel) ⟨Nat.le_of_ble_eq_true rfl, Nat.le_of_ble_eq_true rfl⟩) hW rfl hl.1 rfl (Nat.le_of_ble_eq_true rfl) dL_acts_91 ⟨Nat.le_of_ble_eq_true rfl, Nat.le_of_ble_eq_true rfl⟩ (fun H locs hW => ?_)
        refine lv_istore (lv' := [(8, .int (nI (V (129 + 4 * i + 2)))), (7, .int (nI (V (3 + TV V j 0)))), (6, .int (nI (9 + (TV V j 0)))), (5, .int (nI j)), (4, .int (nI (V (129 + 4 * i)))), (0, .ref (ox 0)), (1, .ref dd), (2, .int (nI i)), (3, .int (nI d))]) hx hb dL_acts_94 hl (by decide) rfl (fun ls hl => ?_)
        refine lv_aload_n hx hb dL_acts_96 rfl (lv_at hl 5 rfl) ?_
        refine lv_iload_n hx hb dL_acts_97 rfl (lv_at hl 7 rfl) ?_
        refine lv_iconst (v := nI 4) hx hb dL_acts_98 (by decide) ?_
        refine qVr C hN hA (S := (V, m, P, kt, HH, HB, LL)) (S2 := (V, m, P, kt, HH, HB, LL)) (v := (nI (V (129 + 4 * i + 3)))) (As := [.int (nI i), .int (nI 4)]) (rest := []) (fun u A1 h => k4_member xl D kA ox os ob ot (V, m, P, kt, HH, HB, LL) u hI h (nI i) (nI 4) A1) ((e_member hM hi2 (by decide)).trans (by rw [me_4])) (cwV 2 hts gL_acts_X4_member rfl rfl rfl (by decide +kernel) ⟨Nat.le_of_ble_eq_true rfl, Nat.le_of_ble_eq_true rfl⟩) hW rfl hl.1 rfl (Nat.le_of_ble_eq_true rfl) dL_acts_99 ⟨Nat.le_of_ble_eq_true rfl, Nat.le_of_ble_eq_true rfl⟩ (fun H locs hW => ?_)
        refine lv_istore (lv' := [(9, .int (nI (V (129 + 4 * i + 3)))), (8, .int (nI (V (129 + 4 * i + 2)))), (7, .int (nI (V (3 + TV V j 0)))), (6, .int (nI (9 + (TV V j 0)))), (5, .int (nI j)), (4, .int (nI (V (129 + 4 * i)))), (0, .ref (ox 0)), (1, .ref dd), (2, .int (nI i)), (3, .int (nI d))]) hx hb dL_acts_102 hl (by decide) rfl (fun ls hl => ?_)
        refine lv_aload_n hx hb dL_acts_104 rfl (lv_at hl 7 rfl) ?_
        refine lv_iload hx hb dL_acts_105 (lv_at hl 4 rfl) ?_
        refine lv_bipush (v := (-6)) hx hb dL_acts_107 (by decide) ?_
        refine lv_icmp_ne (tgt := 116) hx hb dL_acts_109 (by decide) (fun h_109 => ?_) (fun h_109 => ?_)
        · skip
          refine lv_iconst (v := nI 1) hx hb dL_acts_116 (by decide) ?_
          refine lv_dup2_11 hx hb dL_acts_117 rfl rfl ?_
          refine wIald C hN hW 0 (j := 1) (v := nI (rfS V)) rfl (by decide) (by decide) (hg1) dL_acts_118 ?_
          refine lv_iconst (v := nI 1) hx hb dL_acts_119 (by decide) ?_
          refine xIadd C dL_acts_120 ?_
          refine wIast C hN hW 0 (j := 1) rfl (by decide) (by decide) dL_acts_121 (fun H locs hW => ?_)
          have hW : WX D kA A xs.heap ox os ob ot (V, m, P, kt, HH, HB, LL) [(dd, .inl (kA 0, 2, .inl (upd (g) (1) (nI ((rfS V) + 1)))))] H locs := hW
          refine lv_aload_n hx hb dL_acts_122 rfl (lv_at hl 6 rfl) ?_
          refine lv_iload_n hx hb dL_acts_123 rfl (lv_at hl 8 rfl) ?_
          refine lv_iload_n hx hb dL_acts_124 rfl (lv_at hl 9 rfl) ?_
          have he_125 : opAct (V, m, P, kt, HH, HB, LL) (nI i) (nI d) = (nI j, psS V (acU V (3 + TV V j 0) (129 + 4 * i + 3)) m P kt HH HB LL) := eA
          have hI_125 : InvS (psS V (acU V (3 + TV V j 0) (129 + 4 * i + 3)) m P kt HH HB LL) := inv_of (i_act hI) he_125
          refine qV C hN hA (S := (V, m, P, kt, HH, HB, LL)) (S2 := (psS V (acU V (3 + TV V j 0) (129 + 4 * i + 3)) m P kt HH HB LL)) (v := nI j) (As := [.int (nI i), .int (nI d)]) (rest := []) (fun u A1 h => k4_act xl D kA ox os ob ot (V, m, P, kt, HH, HB, LL) u hI h (nI i) (nI d) A1) (he_125) (cwV 2 hts gL_acts_X4_act rfl rfl rfl (by decide +kernel) ⟨Nat.le_of_ble_eq_true rfl, Nat.le_of_ble_eq_true rfl⟩) hW rfl hl.1 rfl (Nat.le_of_ble_eq_true rfl) dL_acts_125 ⟨Nat.le_of_ble_eq_true rfl, Nat.le_of_ble_eq_true rfl⟩ (fun H locs hW => ?_)
          have hM2 := hI_125.1.2.2.1
          have hi3 : i < acU V (3 + TV V j 0) (129 + 4 * i + 3) 1 := Nat.lt_of_lt_of_eq hi2 (au_1 (by omega) (by omega)).symm
          refine lv_iload hx hb dL_acts_128 (lv_at hl 4 rfl) ?_
          refine xIcmpNe C (tgt := 198) (by omega) (by omega) dL_acts_130 (by decide) (fun h_130 => ?_) (fun h_130 => ?_)
          · exact absurd rfl h_130
          · skip
            refine lv_aload_n hx hb dL_acts_133 rfl (lv_at hl 6 rfl) ?_
            refine lv_iload hx hb dL_acts_134 (lv_at hl 3 rfl) ?_
            refine qVr C hN hA (S := (psS V (acU V (3 + TV V j 0) (129 + 4 * i + 3)) m P kt HH HB LL)) (S2 := (psS V (acU V (3 + TV V j 0) (129 + 4 * i + 3)) m P kt HH HB LL)) (v := nI (V (3 + TV V j 0) + 1)) (As := [.int (nI (9 + (TV V j 0)))]) (rest := []) (fun u A1 h => k4_count xl D kA ox os ob ot (psS V (acU V (3 + TV V j 0) (129 + 4 * i + 3)) m P kt HH HB LL) u hI_125 h (nI (9 + (TV V j 0))) A1) ((e_countR (by omega)).trans (by rw [show 9 + TV V j 0 - 6 = 3 + TV V j 0 by omega, au_a])) (cwV 1 hts gL_acts_X4_count rfl rfl rfl (by decide +kernel) ⟨Nat.le_of_ble_eq_true rfl, Nat.le_of_ble_eq_true rfl⟩) hW rfl hl.1 rfl (Nat.le_of_ble_eq_true rfl) dL_acts_136 ⟨Nat.le_of_ble_eq_true rfl, Nat.le_of_ble_eq_true rfl⟩ (fun H locs hW => ?_)
            refine lv_iload hx hb dL_acts_139 (lv_at hl 2 rfl) ?_
            refine lv_iconst (v := nI 1) hx hb dL_acts_141 (by decide) ?_
            refine xIadd C dL_acts_142 ?_
            refine xIcmpNe C (tgt := 198) (by omega) (by omega) dL_acts_143 (by decide) (fun h_143 => ?_) (fun h_143 => ?_)
            · exact absurd rfl h_143
            · skip
              refine lv_aload_n hx hb dL_acts_146 rfl (lv_at hl 6 rfl) ?_
              refine lv_iload_n hx hb dL_acts_147 rfl (lv_at hl 8 rfl) ?_
              refine lv_iconst (v := nI 3) hx hb dL_acts_148 (by decide) ?_
              refine qVr C hN hA (S := (psS V (acU V (3 + TV V j 0) (129 + 4 * i + 3)) m P kt HH HB LL)) (S2 := (psS V (acU V (3 + TV V j 0) (129 + 4 * i + 3)) m P kt HH HB LL)) (v := nI (V (129 + 4 * i + 2))) (As := [.int (nI i), .int (nI 3)]) (rest := []) (fun u A1 h => k4_member xl D kA ox os ob ot (psS V (acU V (3 + TV V j 0) (129 + 4 * i + 3)) m P kt HH HB LL) u hI_125 h (nI i) (nI 3) A1) ((e_member hM2 hi3 (by decide)).trans (by rw [me_3, mR3 (show 3 + TV V j 0 ≤ 8 by omega)])) (cwV 2 hts gL_acts_X4_member rfl rfl rfl (by decide +kernel) ⟨Nat.le_of_ble_eq_true rfl, Nat.le_of_ble_eq_true rfl⟩) hW rfl hl.1 rfl (Nat.le_of_ble_eq_true rfl) dL_acts_149 ⟨Nat.le_of_ble_eq_true rfl, Nat.le_of_ble_eq_true rfl⟩ (fun H locs hW => ?_)
              refine lv_iload hx hb dL_acts_152 (lv_at hl 1 rfl) ?_
              refine lv_iload hx hb dL_acts_154 (lv_at hl 4 rfl) ?_
              refine lv_bipush (v := (-6)) hx hb dL_acts_156 (by decide) ?_
              refine lv_icmp_ne (tgt := 165) hx hb dL_acts_158 (by decide) (fun h_158 => ?_) (fun h_158 => ?_)
              · skip
                refine lv_iconst (v := nI 0) hx hb dL_acts_165 (by decide) ?_
                refine xIadd C dL_acts_166 ?_
                refine xIcmpNe C (tgt := 198) (by omega) (by omega) dL_acts_167 (by decide) (fun h_167 => ?_) (fun h_167 => ?_)
                · exact absurd rfl h_167
                · skip
                  refine lv_aload_n hx hb dL_acts_170 rfl (lv_at hl 6 rfl) ?_
                  refine lv_iload_n hx hb dL_acts_171 rfl (lv_at hl 8 rfl) ?_
                  refine lv_iconst (v := nI 4) hx hb dL_acts_172 (by decide) ?_
                  refine qVr C hN hA (S := (psS V (acU V (3 + TV V j 0) (129 + 4 * i + 3)) m P kt HH HB LL)) (S2 := (psS V (acU V (3 + TV V j 0) (129 + 4 * i + 3)) m P kt HH HB LL)) (v := (nI (V (129 + 4 * i + 3)) + nI 1)) (As := [.int (nI i), .int (nI 4)]) (rest := []) (fun u A1 h => k4_member xl D kA ox os ob ot (psS V (acU V (3 + TV V j 0) (129 + 4 * i + 3)) m P kt HH HB LL) u hI_125 h (nI i) (nI 4) A1) ((e_member hM2 hi3 (by decide)).trans (by rw [me_4, mR4 (show 3 + TV V j 0 ≤ 8 by omega), ← nI_add])) (cwV 2 hts gL_acts_X4_member rfl rfl rfl (by decide +kernel) ⟨Nat.le_of_ble_eq_true rfl, Nat.le_of_ble_eq_true rfl⟩) hW rfl hl.1 rfl (Nat.le_of_ble_eq_true rfl) dL_acts_173 ⟨Nat.le_of_ble_eq_true rfl, Nat.le_of_ble_eq_true rfl⟩ (fun H locs hW => ?_)
                  refine lv_iload hx hb dL_acts_176 (lv_at hl 0 rfl) ?_
                  refine lv_iload hx hb dL_acts_178 (lv_at hl 4 rfl) ?_
                  refine lv_bipush (v := (-6)) hx hb dL_acts_180 (by decide) ?_
                  refine lv_icmp_ne (tgt := 189) hx hb dL_acts_182 (by decide) (fun h_182 => ?_) (fun h_182 => ?_)
                  · skip
                    refine lv_iconst (v := nI 1) hx hb dL_acts_189 (by decide) ?_
                    refine lv_iadd hx hb dL_acts_190 ?_
                    refine lv_icmp_ne (tgt := 198) hx hb dL_acts_191 (by decide) (fun h_191 => ?_) (fun h_191 => ?_)
                    · exact absurd rfl h_191
                    · skip
                      refine lv_iconst (v := nI 1) hx hb dL_acts_194 (by decide) ?_
                      refine lv_goto (tgt := 199) hx hb dL_acts_195 (by decide) ?_
                      exact wRetZ hx hb hret (v := nI 1) (xNar1) (⟨rfl, _, _, _, _, rfl, hI_125, li_ref hL (by omega), rfl⟩) hW dL_acts_199 hlocks
                  · exact absurd h_182 (nI_ne6 (by omega))
              · exact absurd h_158 (nI_ne6 (by omega))
        · exact absurd h_109 (nI_ne6 (by omega))
      · skip
        rw [h_60] at hl
        rw [h_60, au_B] at eA
        have hq2 : V 8 ≤ 1000 := Nat.le_trans (rf_at (by decide)) (by omega)
        refine lv_bipush (v := nI 14) hx hb dL_acts_63 (by decide) ?_
        refine lv_goto (tgt := 78) hx hb dL_acts_65 (by decide) ?_
        refine lv_istore (lv' := [(6, .int (nI 14)), (5, .int (nI 100)), (4, .int (nI (V (129 + 4 * i)))), (0, .ref (ox 0)), (1, .ref dd), (2, .int (nI i)), (3, .int (nI d))]) hx hb dL_acts_78 hl (by decide) rfl (fun ls hl => ?_)
        refine lv_aload_n hx hb dL_acts_80 rfl (lv_at hl 3 rfl) ?_
        refine lv_iload hx hb dL_acts_81 (lv_at hl 0 rfl) ?_
        refine qVr C hN hA (S := (V, m, P, kt, HH, HB, LL)) (S2 := (V, m, P, kt, HH, HB, LL)) (v := nI (V 8)) (As := [.int (nI 14)]) (rest := []) (fun u A1 h => k4_count xl D kA ox os ob ot (V, m, P, kt, HH, HB, LL) u hI h (nI 14) A1) (e_countR (by decide)) (cwV 1 hts gL_acts_X4_count rfl rfl rfl (by decide +kernel) ⟨Nat.le_of_ble_eq_true rfl, Nat.le_of_ble_eq_true rfl⟩) hW rfl hl.1 rfl (Nat.le_of_ble_eq_true rfl) dL_acts_83 ⟨Nat.le_of_ble_eq_true rfl, Nat.le_of_ble_eq_true rfl⟩ (fun H locs hW => ?_)
        refine lv_istore (lv' := [(7, .int (nI (V 8))), (6, .int (nI 14)), (5, .int (nI 100)), (4, .int (nI (V (129 + 4 * i)))), (0, .ref (ox 0)), (1, .ref dd), (2, .int (nI i)), (3, .int (nI d))]) hx hb dL_acts_86 hl (by decide) rfl (fun ls hl => ?_)
        refine lv_aload_n hx hb dL_acts_88 rfl (lv_at hl 4 rfl) ?_
        refine lv_iload_n hx hb dL_acts_89 rfl (lv_at hl 6 rfl) ?_
        refine lv_iconst (v := nI 3) hx hb dL_acts_90 (by decide) ?_
        refine qVr C hN hA (S := (V, m, P, kt, HH, HB, LL)) (S2 := (V, m, P, kt, HH, HB, LL)) (v := nI (V (129 + 4 * i + 2))) (As := [.int (nI i), .int (nI 3)]) (rest := []) (fun u A1 h => k4_member xl D kA ox os ob ot (V, m, P, kt, HH, HB, LL) u hI h (nI i) (nI 3) A1) ((e_member hM hi2 (by decide)).trans (by rw [me_3, dnF])) (cwV 2 hts gL_acts_X4_member rfl rfl rfl (by decide +kernel) ⟨Nat.le_of_ble_eq_true rfl, Nat.le_of_ble_eq_true rfl⟩) hW rfl hl.1 rfl (Nat.le_of_ble_eq_true rfl) dL_acts_91 ⟨Nat.le_of_ble_eq_true rfl, Nat.le_of_ble_eq_true rfl⟩ (fun H locs hW => ?_)
        refine lv_istore (lv' := [(8, .int (nI (V (129 + 4 * i + 2)))), (7, .int (nI (V 8))), (6, .int (nI 14)), (5, .int (nI 100)), (4, .int (nI (V (129 + 4 * i)))), (0, .ref (ox 0)), (1, .ref dd), (2, .int (nI i)), (3, .int (nI d))]) hx hb dL_acts_94 hl (by decide) rfl (fun ls hl => ?_)
        refine lv_aload_n hx hb dL_acts_96 rfl (lv_at hl 5 rfl) ?_
        refine lv_iload_n hx hb dL_acts_97 rfl (lv_at hl 7 rfl) ?_
        refine lv_iconst (v := nI 4) hx hb dL_acts_98 (by decide) ?_
        refine qVr C hN hA (S := (V, m, P, kt, HH, HB, LL)) (S2 := (V, m, P, kt, HH, HB, LL)) (v := (nI (V (129 + 4 * i + 3)))) (As := [.int (nI i), .int (nI 4)]) (rest := []) (fun u A1 h => k4_member xl D kA ox os ob ot (V, m, P, kt, HH, HB, LL) u hI h (nI i) (nI 4) A1) ((e_member hM hi2 (by decide)).trans (by rw [me_4])) (cwV 2 hts gL_acts_X4_member rfl rfl rfl (by decide +kernel) ⟨Nat.le_of_ble_eq_true rfl, Nat.le_of_ble_eq_true rfl⟩) hW rfl hl.1 rfl (Nat.le_of_ble_eq_true rfl) dL_acts_99 ⟨Nat.le_of_ble_eq_true rfl, Nat.le_of_ble_eq_true rfl⟩ (fun H locs hW => ?_)
        refine lv_istore (lv' := [(9, .int (nI (V (129 + 4 * i + 3)))), (8, .int (nI (V (129 + 4 * i + 2)))), (7, .int (nI (V 8))), (6, .int (nI 14)), (5, .int (nI 100)), (4, .int (nI (V (129 + 4 * i)))), (0, .ref (ox 0)), (1, .ref dd), (2, .int (nI i)), (3, .int (nI d))]) hx hb dL_acts_102 hl (by decide) rfl (fun ls hl => ?_)
        refine lv_aload_n hx hb dL_acts_104 rfl (lv_at hl 7 rfl) ?_
        refine lv_iload hx hb dL_acts_105 (lv_at hl 4 rfl) ?_
        refine lv_bipush (v := (-6)) hx hb dL_acts_107 (by decide) ?_
        refine lv_icmp_ne (tgt := 116) hx hb dL_acts_109 (by decide) (fun h_109 => ?_) (fun h_109 => ?_)
        · skip
          refine lv_iconst (v := nI 1) hx hb dL_acts_116 (by decide) ?_
          refine lv_dup2_11 hx hb dL_acts_117 rfl rfl ?_
          refine wIald C hN hW 0 (j := 1) (v := nI (rfS V)) rfl (by decide) (by decide) (hg1) dL_acts_118 ?_
          refine lv_iconst (v := nI 1) hx hb dL_acts_119 (by decide) ?_
          refine xIadd C dL_acts_120 ?_
          refine wIast C hN hW 0 (j := 1) rfl (by decide) (by decide) dL_acts_121 (fun H locs hW => ?_)
          have hW : WX D kA A xs.heap ox os ob ot (V, m, P, kt, HH, HB, LL) [(dd, .inl (kA 0, 2, .inl (upd (g) (1) (nI ((rfS V) + 1)))))] H locs := hW
          refine lv_aload_n hx hb dL_acts_122 rfl (lv_at hl 6 rfl) ?_
          refine lv_iload_n hx hb dL_acts_123 rfl (lv_at hl 8 rfl) ?_
          refine lv_iload_n hx hb dL_acts_124 rfl (lv_at hl 9 rfl) ?_
          have he_125 : opAct (V, m, P, kt, HH, HB, LL) (nI i) (nI d) = (nI 100, psS V (acU V 8 (129 + 4 * i + 3)) m P kt HH HB LL) := eA
          have hI_125 : InvS (psS V (acU V 8 (129 + 4 * i + 3)) m P kt HH HB LL) := inv_of (i_act hI) he_125
          refine qV C hN hA (S := (V, m, P, kt, HH, HB, LL)) (S2 := (psS V (acU V 8 (129 + 4 * i + 3)) m P kt HH HB LL)) (v := nI 100) (As := [.int (nI i), .int (nI d)]) (rest := []) (fun u A1 h => k4_act xl D kA ox os ob ot (V, m, P, kt, HH, HB, LL) u hI h (nI i) (nI d) A1) (he_125) (cwV 2 hts gL_acts_X4_act rfl rfl rfl (by decide +kernel) ⟨Nat.le_of_ble_eq_true rfl, Nat.le_of_ble_eq_true rfl⟩) hW rfl hl.1 rfl (Nat.le_of_ble_eq_true rfl) dL_acts_125 ⟨Nat.le_of_ble_eq_true rfl, Nat.le_of_ble_eq_true rfl⟩ (fun H locs hW => ?_)
          have hM2 := hI_125.1.2.2.1
          have hi3 : i < acU V 8 (129 + 4 * i + 3) 1 := Nat.lt_of_lt_of_eq hi2 (au_1 (by omega) (by omega)).symm
          refine lv_iload hx hb dL_acts_128 (lv_at hl 4 rfl) ?_
          refine xIcmpNe C (tgt := 198) (by decide) (by decide) dL_acts_130 (by decide) (fun h_130 => ?_) (fun h_130 => ?_)
          · exact absurd h_130 (by decide)
          · skip
            refine lv_aload_n hx hb dL_acts_133 rfl (lv_at hl 6 rfl) ?_
            refine lv_iload hx hb dL_acts_134 (lv_at hl 3 rfl) ?_
            refine qVr C hN hA (S := (psS V (acU V 8 (129 + 4 * i + 3)) m P kt HH HB LL)) (S2 := (psS V (acU V 8 (129 + 4 * i + 3)) m P kt HH HB LL)) (v := nI (V 8 + 1)) (As := [.int (nI 14)]) (rest := []) (fun u A1 h => k4_count xl D kA ox os ob ot (psS V (acU V 8 (129 + 4 * i + 3)) m P kt HH HB LL) u hI_125 h (nI 14) A1) ((e_countR (by decide)).trans (by rw [show 14 - 6 = 8 from rfl, au_a])) (cwV 1 hts gL_acts_X4_count rfl rfl rfl (by decide +kernel) ⟨Nat.le_of_ble_eq_true rfl, Nat.le_of_ble_eq_true rfl⟩) hW rfl hl.1 rfl (Nat.le_of_ble_eq_true rfl) dL_acts_136 ⟨Nat.le_of_ble_eq_true rfl, Nat.le_of_ble_eq_true rfl⟩ (fun H locs hW => ?_)
            refine lv_iload hx hb dL_acts_139 (lv_at hl 2 rfl) ?_
            refine lv_iconst (v := nI 1) hx hb dL_acts_141 (by decide) ?_
            refine xIadd C dL_acts_142 ?_
            refine xIcmpNe C (tgt := 198) (by omega) (by omega) dL_acts_143 (by decide) (fun h_143 => ?_) (fun h_143 => ?_)
            · exact absurd rfl h_143
            · skip
              refine lv_aload_n hx hb dL_acts_146 rfl (lv_at hl 6 rfl) ?_
              refine lv_iload_n hx hb dL_acts_147 rfl (lv_at hl 8 rfl) ?_
              refine lv_iconst (v := nI 3) hx hb dL_acts_148 (by decide) ?_
              refine qVr C hN hA (S := (psS V (acU V 8 (129 + 4 * i + 3)) m P kt HH HB LL)) (S2 := (psS V (acU V 8 (129 + 4 * i + 3)) m P kt HH HB LL)) (v := nI (V (129 + 4 * i + 2))) (As := [.int (nI i), .int (nI 3)]) (rest := []) (fun u A1 h => k4_member xl D kA ox os ob ot (psS V (acU V 8 (129 + 4 * i + 3)) m P kt HH HB LL) u hI_125 h (nI i) (nI 3) A1) ((e_member hM2 hi3 (by decide)).trans (by rw [me_3, mR3 (show 8 ≤ 8 by decide)])) (cwV 2 hts gL_acts_X4_member rfl rfl rfl (by decide +kernel) ⟨Nat.le_of_ble_eq_true rfl, Nat.le_of_ble_eq_true rfl⟩) hW rfl hl.1 rfl (Nat.le_of_ble_eq_true rfl) dL_acts_149 ⟨Nat.le_of_ble_eq_true rfl, Nat.le_of_ble_eq_true rfl⟩ (fun H locs hW => ?_)
              refine lv_iload hx hb dL_acts_152 (lv_at hl 1 rfl) ?_
              refine lv_iload hx hb dL_acts_154 (lv_at hl 4 rfl) ?_
              refine lv_bipush (v := (-6)) hx hb dL_acts_156 (by decide) ?_
              refine lv_icmp_ne (tgt := 165) hx hb dL_acts_158 (by decide) (fun h_158 => ?_) (fun h_158 => ?_)
              · skip
                refine lv_iconst (v := nI 0) hx hb dL_acts_165 (by decide) ?_
                refine xIadd C dL_acts_166 ?_
                refine xIcmpNe C (tgt := 198) (by omega) (by omega) dL_acts_167 (by decide) (fun h_167 => ?_) (fun h_167 => ?_)
                · exact absurd rfl h_167
                · skip
                  refine lv_aload_n hx hb dL_acts_170 rfl (lv_at hl 6 rfl) ?_
                  refine lv_iload_n hx hb dL_acts_171 rfl (lv_at hl 8 rfl) ?_
                  refine lv_iconst (v := nI 4) hx hb dL_acts_172 (by decide) ?_
                  refine qVr C hN hA (S := (psS V (acU V 8 (129 + 4 * i + 3)) m P kt HH HB LL)) (S2 := (psS V (acU V 8 (129 + 4 * i + 3)) m P kt HH HB LL)) (v := (nI (V (129 + 4 * i + 3)) + nI 1)) (As := [.int (nI i), .int (nI 4)]) (rest := []) (fun u A1 h => k4_member xl D kA ox os ob ot (psS V (acU V 8 (129 + 4 * i + 3)) m P kt HH HB LL) u hI_125 h (nI i) (nI 4) A1) ((e_member hM2 hi3 (by decide)).trans (by rw [me_4, mR4 (show 8 ≤ 8 by decide), ← nI_add])) (cwV 2 hts gL_acts_X4_member rfl rfl rfl (by decide +kernel) ⟨Nat.le_of_ble_eq_true rfl, Nat.le_of_ble_eq_true rfl⟩) hW rfl hl.1 rfl (Nat.le_of_ble_eq_true rfl) dL_acts_173 ⟨Nat.le_of_ble_eq_true rfl, Nat.le_of_ble_eq_true rfl⟩ (fun H locs hW => ?_)
                  refine lv_iload hx hb dL_acts_176 (lv_at hl 0 rfl) ?_
                  refine lv_iload hx hb dL_acts_178 (lv_at hl 4 rfl) ?_
                  refine lv_bipush (v := (-6)) hx hb dL_acts_180 (by decide) ?_
                  refine lv_icmp_ne (tgt := 189) hx hb dL_acts_182 (by decide) (fun h_182 => ?_) (fun h_182 => ?_)
                  · skip
                    refine lv_iconst (v := nI 1) hx hb dL_acts_189 (by decide) ?_
                    refine lv_iadd hx hb dL_acts_190 ?_
                    refine lv_icmp_ne (tgt := 198) hx hb dL_acts_191 (by decide) (fun h_191 => ?_) (fun h_191 => ?_)
                    · exact absurd rfl h_191
                    · skip
                      refine lv_iconst (v := nI 1) hx hb dL_acts_194 (by decide) ?_
                      refine lv_goto (tgt := 199) hx hb dL_acts_195 (by decide) ?_
                      exact wRetZ hx hb hret (v := nI 1) (xNar1) (⟨rfl, _, _, _, _, rfl, hI_125, li_ref hL (by omega), rfl⟩) hW dL_acts_199 hlocks
                  · exact absurd h_182 (nI_ne6 (by omega))
              · exact absurd h_158 (nI_ne6 (by omega))
        · exact absurd h_109 (nI_ne6 (by omega))
    · skip
      rw [h_48] at hl
      rw [h_48, au_A] at eA
      have hq2 : V 2 ≤ 1000 := by omega
      refine lv_bipush (v := nI 8) hx hb dL_acts_51 (by decide) ?_
      refine lv_goto (tgt := 78) hx hb dL_acts_53 (by decide) ?_
      refine lv_istore (lv' := [(6, .int (nI 8)), (5, .int (-6)), (4, .int (nI (V (129 + 4 * i)))), (0, .ref (ox 0)), (1, .ref dd), (2, .int (nI i)), (3, .int (nI d))]) hx hb dL_acts_78 hl (by decide) rfl (fun ls hl => ?_)
      refine lv_aload_n hx hb dL_acts_80 rfl (lv_at hl 3 rfl) ?_
      refine lv_iload hx hb dL_acts_81 (lv_at hl 0 rfl) ?_
      refine qVr C hN hA (S := (V, m, P, kt, HH, HB, LL)) (S2 := (V, m, P, kt, HH, HB, LL)) (v := nI (V 2)) (As := [.int (nI 8)]) (rest := []) (fun u A1 h => k4_count xl D kA ox os ob ot (V, m, P, kt, HH, HB, LL) u hI h (nI 8) A1) (e_count8) (cwV 1 hts gL_acts_X4_count rfl rfl rfl (by decide +kernel) ⟨Nat.le_of_ble_eq_true rfl, Nat.le_of_ble_eq_true rfl⟩) hW rfl hl.1 rfl (Nat.le_of_ble_eq_true rfl) dL_acts_83 ⟨Nat.le_of_ble_eq_true rfl, Nat.le_of_ble_eq_true rfl⟩ (fun H locs hW => ?_)
      refine lv_istore (lv' := [(7, .int (nI (V 2))), (6, .int (nI 8)), (5, .int (-6)), (4, .int (nI (V (129 + 4 * i)))), (0, .ref (ox 0)), (1, .ref dd), (2, .int (nI i)), (3, .int (nI d))]) hx hb dL_acts_86 hl (by decide) rfl (fun ls hl => ?_)
      refine lv_aload_n hx hb dL_acts_88 rfl (lv_at hl 4 rfl) ?_
      refine lv_iload_n hx hb dL_acts_89 rfl (lv_at hl 6 rfl) ?_
      refine lv_iconst (v := nI 3) hx hb dL_acts_90 (by decide) ?_
      refine qVr C hN hA (S := (V, m, P, kt, HH, HB, LL)) (S2 := (V, m, P, kt, HH, HB, LL)) (v := nI (V (129 + 4 * i + 2))) (As := [.int (nI i), .int (nI 3)]) (rest := []) (fun u A1 h => k4_member xl D kA ox os ob ot (V, m, P, kt, HH, HB, LL) u hI h (nI i) (nI 3) A1) ((e_member hM hi2 (by decide)).trans (by rw [me_3, dnF])) (cwV 2 hts gL_acts_X4_member rfl rfl rfl (by decide +kernel) ⟨Nat.le_of_ble_eq_true rfl, Nat.le_of_ble_eq_true rfl⟩) hW rfl hl.1 rfl (Nat.le_of_ble_eq_true rfl) dL_acts_91 ⟨Nat.le_of_ble_eq_true rfl, Nat.le_of_ble_eq_true rfl⟩ (fun H locs hW => ?_)
      refine lv_istore (lv' := [(8, .int (nI (V (129 + 4 * i + 2)))), (7, .int (nI (V 2))), (6, .int (nI 8)), (5, .int (-6)), (4, .int (nI (V (129 + 4 * i)))), (0, .ref (ox 0)), (1, .ref dd), (2, .int (nI i)), (3, .int (nI d))]) hx hb dL_acts_94 hl (by decide) rfl (fun ls hl => ?_)
      refine lv_aload_n hx hb dL_acts_96 rfl (lv_at hl 5 rfl) ?_
      refine lv_iload_n hx hb dL_acts_97 rfl (lv_at hl 7 rfl) ?_
      refine lv_iconst (v := nI 4) hx hb dL_acts_98 (by decide) ?_
      refine qVr C hN hA (S := (V, m, P, kt, HH, HB, LL)) (S2 := (V, m, P, kt, HH, HB, LL)) (v := (nI (V (129 + 4 * i + 3)))) (As := [.int (nI i), .int (nI 4)]) (rest := []) (fun u A1 h => k4_member xl D kA ox os ob ot (V, m, P, kt, HH, HB, LL) u hI h (nI i) (nI 4) A1) ((e_member hM hi2 (by decide)).trans (by rw [me_4])) (cwV 2 hts gL_acts_X4_member rfl rfl rfl (by decide +kernel) ⟨Nat.le_of_ble_eq_true rfl, Nat.le_of_ble_eq_true rfl⟩) hW rfl hl.1 rfl (Nat.le_of_ble_eq_true rfl) dL_acts_99 ⟨Nat.le_of_ble_eq_true rfl, Nat.le_of_ble_eq_true rfl⟩ (fun H locs hW => ?_)
      refine lv_istore (lv' := [(9, .int (nI (V (129 + 4 * i + 3)))), (8, .int (nI (V (129 + 4 * i + 2)))), (7, .int (nI (V 2))), (6, .int (nI 8)), (5, .int (-6)), (4, .int (nI (V (129 + 4 * i)))), (0, .ref (ox 0)), (1, .ref dd), (2, .int (nI i)), (3, .int (nI d))]) hx hb dL_acts_102 hl (by decide) rfl (fun ls hl => ?_)
      refine lv_aload_n hx hb dL_acts_104 rfl (lv_at hl 7 rfl) ?_
      refine lv_iload hx hb dL_acts_105 (lv_at hl 4 rfl) ?_
      refine lv_bipush (v := (-6)) hx hb dL_acts_107 (by decide) ?_
      refine lv_icmp_ne (tgt := 116) hx hb dL_acts_109 (by decide) (fun h_109 => ?_) (fun h_109 => ?_)
      · exact absurd rfl h_109
      · skip
        refine lv_iconst (v := nI 0) hx hb dL_acts_112 (by decide) ?_
        refine lv_goto (tgt := 117) hx hb dL_acts_113 (by decide) ?_
        refine lv_dup2_11 hx hb dL_acts_117 rfl rfl ?_
        refine wIald C hN hW 0 (j := 0) (v := nI (V 2)) rfl (by decide) (by decide) (hg0) dL_acts_118 ?_
        refine lv_iconst (v := nI 1) hx hb dL_acts_119 (by decide) ?_
        refine xIadd C dL_acts_120 ?_
        refine wIast C hN hW 0 (j := 0) rfl (by decide) (by decide) dL_acts_121 (fun H locs hW => ?_)
        have hW : WX D kA A xs.heap ox os ob ot (V, m, P, kt, HH, HB, LL) [(dd, .inl (kA 0, 2, .inl (upd (g) (0) (nI ((V 2) + 1)))))] H locs := hW
        refine lv_aload_n hx hb dL_acts_122 rfl (lv_at hl 6 rfl) ?_
        refine lv_iload_n hx hb dL_acts_123 rfl (lv_at hl 8 rfl) ?_
        refine lv_iload_n hx hb dL_acts_124 rfl (lv_at hl 9 rfl) ?_
        have he_125 : opAct (V, m, P, kt, HH, HB, LL) (nI i) (nI d) = ((-6), psS V (acU V 2 (129 + 4 * i + 2)) m P kt HH HB LL) := eA
        have hI_125 : InvS (psS V (acU V 2 (129 + 4 * i + 2)) m P kt HH HB LL) := inv_of (i_act hI) he_125
        refine qV C hN hA (S := (V, m, P, kt, HH, HB, LL)) (S2 := (psS V (acU V 2 (129 + 4 * i + 2)) m P kt HH HB LL)) (v := (-6)) (As := [.int (nI i), .int (nI d)]) (rest := []) (fun u A1 h => k4_act xl D kA ox os ob ot (V, m, P, kt, HH, HB, LL) u hI h (nI i) (nI d) A1) (he_125) (cwV 2 hts gL_acts_X4_act rfl rfl rfl (by decide +kernel) ⟨Nat.le_of_ble_eq_true rfl, Nat.le_of_ble_eq_true rfl⟩) hW rfl hl.1 rfl (Nat.le_of_ble_eq_true rfl) dL_acts_125 ⟨Nat.le_of_ble_eq_true rfl, Nat.le_of_ble_eq_true rfl⟩ (fun H locs hW => ?_)
        have hM2 := hI_125.1.2.2.1
        have hi3 : i < acU V 2 (129 + 4 * i + 2) 1 := Nat.lt_of_lt_of_eq hi2 (au_1 (by omega) (by omega)).symm
        refine lv_iload hx hb dL_acts_128 (lv_at hl 4 rfl) ?_
        refine lv_icmp_ne (tgt := 198) hx hb dL_acts_130 (by decide) (fun h_130 => ?_) (fun h_130 => ?_)
        · exact absurd rfl h_130
        · skip
          refine lv_aload_n hx hb dL_acts_133 rfl (lv_at hl 6 rfl) ?_
          refine lv_iload hx hb dL_acts_134 (lv_at hl 3 rfl) ?_
          refine qVr C hN hA (S := (psS V (acU V 2 (129 + 4 * i + 2)) m P kt HH HB LL)) (S2 := (psS V (acU V 2 (129 + 4 * i + 2)) m P kt HH HB LL)) (v := nI (V 2 + 1)) (As := [.int (nI 8)]) (rest := []) (fun u A1 h => k4_count xl D kA ox os ob ot (psS V (acU V 2 (129 + 4 * i + 2)) m P kt HH HB LL) u hI_125 h (nI 8) A1) (e_count8.trans (by rw [au_a])) (cwV 1 hts gL_acts_X4_count rfl rfl rfl (by decide +kernel) ⟨Nat.le_of_ble_eq_true rfl, Nat.le_of_ble_eq_true rfl⟩) hW rfl hl.1 rfl (Nat.le_of_ble_eq_true rfl) dL_acts_136 ⟨Nat.le_of_ble_eq_true rfl, Nat.le_of_ble_eq_true rfl⟩ (fun H locs hW => ?_)
          refine lv_iload hx hb dL_acts_139 (lv_at hl 2 rfl) ?_
          refine lv_iconst (v := nI 1) hx hb dL_acts_141 (by decide) ?_
          refine xIadd C dL_acts_142 ?_
          refine xIcmpNe C (tgt := 198) (by omega) (by omega) dL_acts_143 (by decide) (fun h_143 => ?_) (fun h_143 => ?_)
          · exact absurd rfl h_143
          · skip
            refine lv_aload_n hx hb dL_acts_146 rfl (lv_at hl 6 rfl) ?_
            refine lv_iload_n hx hb dL_acts_147 rfl (lv_at hl 8 rfl) ?_
            refine lv_iconst (v := nI 3) hx hb dL_acts_148 (by decide) ?_
            refine qVr C hN hA (S := (psS V (acU V 2 (129 + 4 * i + 2)) m P kt HH HB LL)) (S2 := (psS V (acU V 2 (129 + 4 * i + 2)) m P kt HH HB LL)) (v := nI (V (129 + 4 * i + 2) + 1)) (As := [.int (nI i), .int (nI 3)]) (rest := []) (fun u A1 h => k4_member xl D kA ox os ob ot (psS V (acU V 2 (129 + 4 * i + 2)) m P kt HH HB LL) u hI_125 h (nI i) (nI 3) A1) ((e_member hM2 hi3 (by decide)).trans (by rw [me_3, mA3])) (cwV 2 hts gL_acts_X4_member rfl rfl rfl (by decide +kernel) ⟨Nat.le_of_ble_eq_true rfl, Nat.le_of_ble_eq_true rfl⟩) hW rfl hl.1 rfl (Nat.le_of_ble_eq_true rfl) dL_acts_149 ⟨Nat.le_of_ble_eq_true rfl, Nat.le_of_ble_eq_true rfl⟩ (fun H locs hW => ?_)
            refine lv_iload hx hb dL_acts_152 (lv_at hl 1 rfl) ?_
            refine lv_iload hx hb dL_acts_154 (lv_at hl 4 rfl) ?_
            refine lv_bipush (v := (-6)) hx hb dL_acts_156 (by decide) ?_
            refine lv_icmp_ne (tgt := 165) hx hb dL_acts_158 (by decide) (fun h_158 => ?_) (fun h_158 => ?_)
            · exact absurd rfl h_158
            · skip
              refine lv_iconst (v := nI 1) hx hb dL_acts_161 (by decide) ?_
              refine lv_goto (tgt := 166) hx hb dL_acts_162 (by decide) ?_
              refine xIadd C dL_acts_166 ?_
              refine xIcmpNe C (tgt := 198) (by omega) (by omega) dL_acts_167 (by decide) (fun h_167 => ?_) (fun h_167 => ?_)
              · exact absurd rfl h_167
              · skip
                refine lv_aload_n hx hb dL_acts_170 rfl (lv_at hl 6 rfl) ?_
                refine lv_iload_n hx hb dL_acts_171 rfl (lv_at hl 8 rfl) ?_
                refine lv_iconst (v := nI 4) hx hb dL_acts_172 (by decide) ?_
                refine qVr C hN hA (S := (psS V (acU V 2 (129 + 4 * i + 2)) m P kt HH HB LL)) (S2 := (psS V (acU V 2 (129 + 4 * i + 2)) m P kt HH HB LL)) (v := (nI (V (129 + 4 * i + 3)))) (As := [.int (nI i), .int (nI 4)]) (rest := []) (fun u A1 h => k4_member xl D kA ox os ob ot (psS V (acU V 2 (129 + 4 * i + 2)) m P kt HH HB LL) u hI_125 h (nI i) (nI 4) A1) ((e_member hM2 hi3 (by decide)).trans (by rw [me_4, mA4])) (cwV 2 hts gL_acts_X4_member rfl rfl rfl (by decide +kernel) ⟨Nat.le_of_ble_eq_true rfl, Nat.le_of_ble_eq_true rfl⟩) hW rfl hl.1 rfl (Nat.le_of_ble_eq_true rfl) dL_acts_173 ⟨Nat.le_of_ble_eq_true rfl, Nat.le_of_ble_eq_true rfl⟩ (fun H locs hW => ?_)
                refine lv_iload hx hb dL_acts_176 (lv_at hl 0 rfl) ?_
                refine lv_iload hx hb dL_acts_178 (lv_at hl 4 rfl) ?_
                refine lv_bipush (v := (-6)) hx hb dL_acts_180 (by decide) ?_
                refine lv_icmp_ne (tgt := 189) hx hb dL_acts_182 (by decide) (fun h_182 => ?_) (fun h_182 => ?_)
                · exact absurd rfl h_182
                · skip
                  refine lv_iconst (v := nI 0) hx hb dL_acts_185 (by decide) ?_
                  refine lv_goto (tgt := 190) hx hb dL_acts_186 (by decide) ?_
                  refine lv_iadd hx hb dL_acts_190 ?_
                  refine lv_icmp_ne (tgt := 198) hx hb dL_acts_191 (by decide) (fun h_191 => ?_) (fun h_191 => ?_)
                  · exact absurd (Int32.add_zero _).symm h_191
                  · skip
                    refine lv_iconst (v := nI 1) hx hb dL_acts_194 (by decide) ?_
                    refine lv_goto (tgt := 199) hx hb dL_acts_195 (by decide) ?_
                    exact wRetZ hx hb hret (v := nI 1) (xNar1) (⟨rfl, _, _, _, _, rfl, hI_125, li_done hL hi2, rfl⟩) hW dL_acts_199 hlocks
  · skip
    have hi3 : i = V 1 := by omega
    refine lv_aload_n hx hb dL_acts_0 rfl (lv_at hl 0 rfl) ?_
    refine lv_iload_n hx hb dL_acts_1 rfl (lv_at hl 2 rfl) ?_
    refine lv_iconst (v := nI 0) hx hb dL_acts_2 (by decide) ?_
    refine qVr C hN hA (S := (V, m, P, kt, HH, HB, LL)) (S2 := (V, m, P, kt, HH, HB, LL)) (v := (-1)) (As := [.int (nI i), .int (nI 0)]) (rest := []) (fun u A1 h => k4_member xl D kA ox os ob ot (V, m, P, kt, HH, HB, LL) u hI h (nI i) (nI 0) A1) (by rw [hi3]; exact e_memberN hM) (cwV 2 hts gL_acts_X4_member rfl rfl rfl (by decide +kernel) ⟨Nat.le_of_ble_eq_true rfl, Nat.le_of_ble_eq_true rfl⟩) hW rfl hl.1 rfl (Nat.le_of_ble_eq_true rfl) dL_acts_3 ⟨Nat.le_of_ble_eq_true rfl, Nat.le_of_ble_eq_true rfl⟩ (fun H locs hW => ?_)
    refine lv_istore (lv' := [(4, .int (-1)), (0, .ref (ox 0)), (1, .ref dd), (2, .int (nI i)), (3, .int (nI d))]) hx hb dL_acts_6 hl (by decide) rfl (fun ls hl => ?_)
    refine lv_iload hx hb dL_acts_8 (lv_at hl 0 rfl) ?_
    refine lv_if_ge (tgt := 29) hx hb dL_acts_10 (by decide) (fun h_10 => ?_) (fun h_10 => ?_)
    · exact absurd h_10 (by decide)
    · skip
      refine lv_aload_n hx hb dL_acts_13 rfl (lv_at hl 1 rfl) ?_
      refine lv_iload_n hx hb dL_acts_14 rfl (lv_at hl 3 rfl) ?_
      refine lv_iload_n hx hb dL_acts_15 rfl (lv_at hl 4 rfl) ?_
      refine qV C hN hA (S := (V, m, P, kt, HH, HB, LL)) (S2 := (V, m, P, kt, HH, HB, LL)) (v := (-1)) (As := [.int (nI i), .int (nI d)]) (rest := []) (fun u A1 h => k4_act xl D kA ox os ob ot (V, m, P, kt, HH, HB, LL) u hI h (nI i) (nI d) A1) (by rw [hi3]; exact e_actN hM) (cwV 2 hts gL_acts_X4_act rfl rfl rfl (by decide +kernel) ⟨Nat.le_of_ble_eq_true rfl, Nat.le_of_ble_eq_true rfl⟩) hW rfl hl.1 rfl (Nat.le_of_ble_eq_true rfl) dL_acts_16 ⟨Nat.le_of_ble_eq_true rfl, Nat.le_of_ble_eq_true rfl⟩ (fun H locs hW => ?_)
      refine lv_iconst (v := (-1)) hx hb dL_acts_19 (by decide) ?_
      refine lv_icmp_ne (tgt := 27) hx hb dL_acts_20 (by decide) (fun h_20 => ?_) (fun h_20 => ?_)
      · exact absurd rfl h_20
      · skip
        refine lv_iconst (v := nI 1) hx hb dL_acts_23 (by decide) ?_
        refine lv_goto (tgt := 28) hx hb dL_acts_24 (by decide) ?_
        exact wRetZ hx hb hret (v := nI 1) (xNar1) (⟨rfl, V, kt, HH, g, rfl, hI, li_up hL, rfl⟩) hW dL_acts_28 hlocks
