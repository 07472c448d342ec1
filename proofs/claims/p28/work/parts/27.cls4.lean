theorem has_i {n j : Nat} (h : j < n) (hn : n < 2 ^ 31) : hasB n (nI j) = true := by
  unfold hasB; rw [decide_eq_true (nI_pos' (by omega)), decide_eq_true (nI_lt h hn)]; rfl
theorem sz_done {V : Nat → Nat} {i : Nat} {rs : Int32} (h : rs = -6) : acV V i rs 0 = V 0 ∧ acV V i rs 1 = V 1 ∧ acV V i rs 2 = V 2 + 1 := by
  rw [← ac_2 h]; unfold updN
  refine ⟨?_, ?_, ?_⟩
  · rw [if_neg (by omega), if_neg (by omega)]
  · rw [if_neg (by omega), if_neg (by omega)]
  · rw [if_pos rfl, if_neg (by omega)]
theorem acW_ge {V : Nat → Nat} {rs : Int32} (h : ¬ rs = -6) : 3 ≤ acW V rs := by
  unfold acW; rw [if_neg h]; split <;> omega
theorem sz_ref {V : Nat → Nat} {i : Nat} {rs : Int32} (h : ¬ rs = -6) : acV V i rs 0 = V 0 ∧ acV V i rs 1 = V 1 ∧ acV V i rs 2 = V 2 := by
  have := acW_ge (V := V) h
  unfold acV updN
  refine ⟨?_, ?_, ?_⟩
  · rw [if_neg (by omega), if_neg (by omega)]
  · rw [if_neg (by omega), if_neg (by omega)]
  · rw [if_neg (by omega), if_neg (by omega)]
theorem QR_perm {kA : Nat → ClassId} {sl hs : Nat → Option Nat} {tl tl2 : va_W} {kt k2 : Nat} {HH : Nat → Nat → Nat} {HB : Nat → Bool} {LL : Nat → Nat → Nat} {Q : Nat → Option Ent} (h : QR kA sl hs tl kt HH HB LL Q) (hk : k2 ≤ kt) (ht : tl2.Perm (flatQ kA Q)) : QR kA sl hs tl2 k2 HH HB LL Q :=
  ⟨ht, h.2.1, h.2.2.1, h.2.2.2.1, h.2.2.2.2.1, fun i hi => h.2.2.2.2.2 i (by omega)⟩
theorem unfocus {kA : Nat → ClassId} {Q : Nat → Option Ent} {j : Nat} {a : Nat → Nat} {f g : Nat → Nat → Int32} {U : Nat → Nat} (hj : j < 8) (e : Q j = some (a, f, g, U)) : (stW kA a f (nI (U 0)) g (nI (U 1)) (nI (U 2)) ++ flatQ kA (setQ Q j none)).Perm (flatQ kA Q) := by
  have := flat_at kA Q hj
  rw [e] at this; exact this.symm
theorem QR_back {kA : Nat → ClassId} {sl hs : Nat → Option Nat} {tl : va_W} {kt : Nat} {HH : Nat → Nat → Nat} {HB : Nat → Bool} {LL : Nat → Nat → Nat} {Q : Nat → Option Ent} {a : Nat → Nat} {f g : Nat → Nat → Int32} {U : Nat → Nat} (h : QR kA sl hs tl kt HH HB LL Q) (h1 : 1 ≤ kt) (h6 : kt ≤ 6) (e : Q (kt - 1 + 2) = some (a, f, g, U)) : QR kA sl hs (stW kA a f (nI (U 0)) g (nI (U 1)) (nI (U 2)) ++ flatQ kA (setQ Q (kt - 1 + 2) none)) (kt - 1) HH HB LL Q :=
  QR_perm h (by omega) (unfocus (by omega) e)
theorem QR_same {kA : Nat → ClassId} {sl hs : Nat → Option Nat} {tl : va_W} {kt i : Nat} {HH : Nat → Nat → Nat} {HB : Nat → Bool} {LL : Nat → Nat → Nat} {Q : Nat → Option Ent} {a : Nat → Nat} {f g : Nat → Nat → Int32} {U : Nat → Nat} (h : QR kA sl hs tl kt HH HB LL Q) (hi : i < 8) (e : Q i = some (a, f, g, U)) : QR kA sl hs (stW kA a f (nI (U 0)) g (nI (U 1)) (nI (U 2)) ++ flatQ kA (setQ Q i none)) kt HH HB LL Q :=
  QR_perm h (Nat.le_refl _) (unfocus hi e)
set_option maxHeartbeats 8000000 in
set_option maxRecDepth 100000 in
theorem c_X4_act (xl : Launch) (D : va_G) (kA : Nat → ClassId) (ox os ob ot : Nat → Nat) (sl hs : Nat → Option Nat) (h : Nat → Int32) (tf : Nat → Nat → Int32) (tz : Int32) (f g : Nat → Nat → Int32) (V : Nat → Nat) (ln kt : Nat) (tl : va_W) (P : Nat → Nat) (HH : Nat → Nat → Nat) (HB : Nat → Bool) (LL : Nat → Nat → Nat) (Q : Nat → Option Ent) (hI : InvS (V, ln, P, kt, HH, HB, LL)) (hr : relN V f g) (hpd : relP h ln P) (hQ : QR kA sl hs tl kt HH HB LL Q) (x d : Int32) (A : Nat → Prop) : Met xl yX4_act wsX4_act { frames := 6, cells := 14, slots := 212, locals := 145 } (va_Pc [.ref (ox 0), .int x, .int d] (xPw D kA A ((clsN kA ox os ob ot sl hs h tf tz f g (V 0) (V 1) (V 2) ln kt) ++ tl))) (xQi D A (fun r u => r = (opAct (V, ln, P, kt, HH, HB, LL) x d).1 ∧ ClsR kA ox os ob ot (opAct (V, ln, P, kt, HH, HB, LL) x d).2 u)) 14 212 A := by
  refine Met.ofW (cc := cX4_act) (maxL := 4) (ret := (some .int)) (by decide) rfl ?_
  intro xp xe xs xm args xbe xme xc s₁ B hml hv
  obtain ⟨rfl, hP, hN, hD, hA⟩ := hv
  have hret := B.returns
  have C : CallFix xp xm xc cX4_act 4 xs ([.ref (ox 0), .int x, .int d] : List Value).toArray wsX4_act RX4 := ⟨B.exec, B.bytes, hml, findClass_of_methodNamed B.named, atoms_spec (ws := wsX4_act) B.pre⟩
  have hlocks := B.notSynchronized
  obtain ⟨hx, hb, _, hown, hts⟩ := id C
  have hS : va_S A xs.heap xs.heap [] := va_S.rf
  have hl := lv_entry ([.ref (ox 0), .int x, .int d]) (n := 4) (Nat.le_of_ble_eq_true rfl)
  rw [lg_entry_eq]
  generalize (lg_sl ([.ref (ox 0), .int x, .int d]) ++ List.replicate (4 - (lg_sl ([.ref (ox 0), .int x, .int d])).length) Slot.unset).toArray = ls at hl ⊢
  have hl : lv_has ls 4 [(0, .ref (ox 0)), (1, .int x), (2, .int d)] := hl
  obtain ⟨⟨hV, hW, hM, hG⟩, hm, hwP, hk, hIH, hIL⟩ := hI
  have hR := hr.1
  refine lv_aload_n hx hb dX4_act_0 rfl (lv_at hl 0 rfl) ?_
  refine xGet C hN hP 0 (j := 0) rfl rfl iX4_act_X4 (by decide) kX4_act_12 rfl rfl dX4_act_1 ?_
  refine xGet C hN hP 12 (j := 1) rfl rfl iX4_act_X3 (by decide) kX4_act_105 rfl rfl dX4_act_4 ?_
  refine lv_iload_n hx hb dX4_act_7 rfl (lv_at hl 1 rfl) ?_
  refine xVro C hN (As := [.int x]) (rest := []) (q0 := 0) (c_X0_has xl D kA (fun i => os (i + 8)) g (nI (V 2)) (V 1) x (by omega)) (cwV 1 hts gX4_act_X0_has rfl rfl rfl (by decide +kernel) ⟨Nat.le_of_ble_eq_true rfl, Nat.le_of_ble_eq_true rfl⟩) (xSubL (wc := (gldW kA (fun i => os (i + 8)) g (nI (V 1)) (nI (V 2)))) hP [20, 21, 22, 23, 24, 25] rfl) rfl rfl rfl rfl hl.1 rfl (Nat.le_of_ble_eq_true rfl) dX4_act_8 ⟨Nat.le_of_ble_eq_true rfl, Nat.le_of_ble_eq_true rfl⟩ ?_
  refine xIfEqB C (tgt := 21) dX4_act_11 (by decide) (fun h_11 => ?_) (fun h_11 => ?_)
  · skip
    refine lv_iconst (v := (-1)) hx hb dX4_act_21 (by decide) ?_
    refine W.widen (k := 14) (n := 212) (Nat.le_of_ble_eq_true rfl) (Nat.le_of_ble_eq_true rfl) ?_
    exact xRetI hx hb hret (v := (-1)) (retC (S2 := (V, ln, P, kt, HH, HB, LL)) (by simp [opAct, h_11]) ⟨sl, hs, h, tf, tz, f, g, tl, Q, rfl, hr, hpd, hQ⟩) hP hD hS dX4_act_22 hlocks
  · skip
    refine lv_iload_n hx hb dX4_act_14 rfl (lv_at hl 2 rfl) ?_
    refine xSro C hN (As := [.int d]) (rest := []) (c_X4_isDeed xl D kA d) (va_cwS 1 hts gX4_act_X4_isDeed rfl rfl rfl (by decide +kernel) ⟨Nat.le_of_ble_eq_true rfl, Nat.le_of_ble_eq_true rfl⟩) (xSubL (wc := []) hP [] rfl) rfl hl.1 rfl (Nat.le_of_ble_eq_true rfl) dX4_act_15 ⟨Nat.le_of_ble_eq_true rfl, Nat.le_of_ble_eq_true rfl⟩ ?_
    refine xIfNeB C (tgt := 23) dX4_act_18 (by decide) (fun h_18 => ?_) (fun h_18 => ?_)
    · skip
      obtain ⟨i, a_i, e_i, t_i⟩ := hasB_ex h_11 (by omega)
      rw [e_i] at hl
      skip
      obtain ⟨d1, a_d1, b_d1, e_d1, t_d1⟩ := inR_ex h_18 (by decide) (by decide)
      rw [e_d1] at hl
      skip
      refine lv_aload_n hx hb dX4_act_23 rfl (lv_at hl 0 rfl) ?_
      refine xWWv hS (va_runV (As := []) (rest := []) C (c_X4_remember xl D kA ox os ob ot sl hs h tf tz f g V ln kt tl HH HB LL Q hr hQ hk A) (cwV 0 hts gX4_act_X4_remember rfl rfl rfl (by decide +kernel) ⟨Nat.le_of_ble_eq_true rfl, Nat.le_of_ble_eq_true rfl⟩) (xPreVw (q0 := 0) hN hP hD (xAll hS hA) rfl rfl rfl) rfl rfl hl.1 rfl (lv_room (Nat.le_of_ble_eq_true rfl)) dX4_act_24 ⟨Nat.le_of_ble_eq_true rfl, Nat.le_of_ble_eq_true rfl⟩) (fun u_24 H locs hq_24 hP hD hS => ?_)
      obtain ⟨hs2, tl2, Q2, rfl, hQ2⟩ := hq_24
      have hP : va_P D vwCl ((clsN kA ox os ob ot sl hs2 h tf tz f g (V 0) (V 1) (V 2) ln (pushN kt)) ++ tl2) H := hP
      have hD : va_D A ((clsN kA ox os ob ot sl hs2 h tf tz f g (V 0) (V 1) (V 2) ln (pushN kt)) ++ tl2) := hD
      refine lv_aload_n hx hb dX4_act_27 rfl (lv_at hl 0 rfl) ?_
      refine xGet C hN hP 0 (j := 0) rfl rfl iX4_act_X4 (by decide) kX4_act_12 rfl rfl dX4_act_28 ?_
      refine xGet C hN hP 12 (j := 0) rfl rfl iX4_act_X3 (by decide) kX4_act_52 rfl rfl dX4_act_31 ?_
      refine lv_aload_n hx hb dX4_act_34 rfl (lv_at hl 0 rfl) ?_
      refine xGet C hN hP 0 (j := 0) rfl rfl iX4_act_X4 (by decide) kX4_act_12 rfl rfl dX4_act_35 ?_
      refine xGet C hN hP 12 (j := 1) rfl rfl iX4_act_X3 (by decide) kX4_act_105 rfl rfl dX4_act_38 ?_
      refine xGet C hN hP 20 (j := 0) rfl rfl iX4_act_X0 (by decide) kX4_act_126 rfl rfl dX4_act_41 ?_
      refine lv_iload_n hx hb dX4_act_44 rfl (lv_at hl 1 rfl) ?_
      refine xIald C hN hP 21 (j := i) (v := nI (V (129 + 4 * i + 0))) rfl (by omega) (by decide) (hr.2.1 i (by omega) 0 (by decide)) dX4_act_45 ?_
      refine lv_iload_n hx hb dX4_act_46 rfl (lv_at hl 2 rfl) ?_
      refine xSro C hN (As := [.int (nI (V (129 + 4 * i + 0))), .int (nI d1)]) (rest := [.ref (os 1)]) (c_X4_pairsOf xl D kA (V (129 + 4 * i + 0)) d1 (Nat.le_of_lt (hG i (by omega)).1) (by omega)) (va_cwS 2 hts gX4_act_X4_pairsOf rfl rfl rfl (by decide +kernel) ⟨Nat.le_of_ble_eq_true rfl, Nat.le_of_ble_eq_true rfl⟩) (xSubL (wc := []) hP [] rfl) rfl hl.1 rfl (Nat.le_of_ble_eq_true rfl) dX4_act_47 ⟨Nat.le_of_ble_eq_true rfl, Nat.le_of_ble_eq_true rfl⟩ ?_
      refine lv_aload_n hx hb dX4_act_50 rfl (lv_at hl 0 rfl) ?_
      refine xGet C hN hP 0 (j := 0) rfl rfl iX4_act_X4 (by decide) kX4_act_12 rfl rfl dX4_act_51 ?_
      refine xGet C hN hP 12 (j := 1) rfl rfl iX4_act_X3 (by decide) kX4_act_105 rfl rfl dX4_act_54 ?_
      refine xGet C hN hP 20 (j := 1) rfl rfl iX4_act_X0 (by decide) kX4_act_120 rfl rfl dX4_act_57 ?_
      refine lv_iload_n hx hb dX4_act_60 rfl (lv_at hl 1 rfl) ?_
      refine xIald C hN hP 22 (j := i) (v := nI (V (129 + 4 * i + 1))) rfl (by omega) (by decide) (hr.2.1 i (by omega) 1 (by decide)) dX4_act_61 ?_
      refine xVro C hN (As := [.int (mk (pfit (V (129 + 4 * i + 0)) d1)), .int (nI (V (129 + 4 * i + 1)))]) (rest := []) (q0 := 0) (c_X2_reason xl D kA (fun i => os (i + 1)) f (V 0) (TV V) hR hW (by omega) (V (129 + 4 * i + 0)) d1 (V (129 + 4 * i + 1)) (hG i (by omega)).1 (by omega) (by have := (hG i (by omega)).2; omega)) (cwV 2 hts gX4_act_X2_reason rfl rfl rfl (by decide +kernel) ⟨Nat.le_of_ble_eq_true rfl, Nat.le_of_ble_eq_true rfl⟩) (xSubL (wc := (rulW kA (fun i => os (i + 1)) f (nI (V 0)))) hP [13, 14, 15, 16, 17, 18, 19] rfl) rfl rfl rfl rfl hl.1 rfl (Nat.le_of_ble_eq_true rfl) dX4_act_62 ⟨Nat.le_of_ble_eq_true rfl, Nat.le_of_ble_eq_true rfl⟩ ?_
      refine lv_istore_n (lv' := [(3, .int (rsnT (V 0) (TV V) (V (129 + 4 * i + 0)) d1 (V (129 + 4 * i + 1)))), (0, .ref (ox 0)), (1, .int (nI i)), (2, .int (nI d1))]) hx hb dX4_act_65 rfl hl (by decide) rfl (fun ls hl => ?_)
      refine lv_iload_n hx hb dX4_act_66 rfl (lv_at hl 0 rfl) ?_
      refine lv_bipush (v := (-6)) hx hb dX4_act_67 (by decide) ?_
      refine lv_icmp_ne (tgt := 86) hx hb dX4_act_69 (by decide) (fun h_69 => ?_) (fun h_69 => ?_)
      · skip
        refine lv_aload_n hx hb dX4_act_86 rfl (lv_at hl 1 rfl) ?_
        refine xGet C hN hP 0 (j := 0) rfl rfl iX4_act_X4 (by decide) kX4_act_12 rfl rfl dX4_act_87 ?_
        refine xGet C hN hP 12 (j := 0) rfl rfl iX4_act_X3 (by decide) kX4_act_52 rfl rfl dX4_act_90 ?_
        refine lv_iload_n hx hb dX4_act_93 rfl (lv_at hl 0 rfl) ?_
        refine xVro C hN (As := [.int (rsnT (V 0) (TV V) (V (129 + 4 * i + 0)) d1 (V (129 + 4 * i + 1)))]) (rest := []) (q0 := 0) (c_X2_has xl D kA (fun i => os (i + 1)) f (V 0) (rsnT (V 0) (TV V) (V (129 + 4 * i + 0)) d1 (V (129 + 4 * i + 1))) (by omega)) (cwV 1 hts gX4_act_X2_has rfl rfl rfl (by decide +kernel) ⟨Nat.le_of_ble_eq_true rfl, Nat.le_of_ble_eq_true rfl⟩) (xSubL (wc := (rulW kA (fun i => os (i + 1)) f (nI (V 0)))) hP [13, 14, 15, 16, 17, 18, 19] rfl) rfl rfl rfl rfl hl.1 rfl (Nat.le_of_ble_eq_true rfl) dX4_act_94 ⟨Nat.le_of_ble_eq_true rfl, Nat.le_of_ble_eq_true rfl⟩ ?_
        refine xIfEqB C (tgt := 126) dX4_act_97 (by decide) (fun h_97 => ?_) (fun h_97 => ?_)
        · skip
          have r100 : (rsnT (V 0) (TV V) (V (129 + 4 * i + 0)) d1 (V (129 + 4 * i + 1))) = nI 100 := by rcases rsn_cases (c := V (129 + 4 * i + 0)) (d := d1) (rk := V (129 + 4 * i + 1)) hW with q | q | ⟨j, q1, q2⟩; exact absurd q h_69; exact q; rw [q2, has_i q1 (by omega)] at h_97; cases h_97
          skip
          refine lv_aload_n hx hb dX4_act_126 rfl (lv_at hl 1 rfl) ?_
          refine xGet C hN hP 0 (j := 0) rfl rfl iX4_act_X4 (by decide) kX4_act_12 rfl rfl dX4_act_127 ?_
          refine xGet C hN hP 12 (j := 1) rfl rfl iX4_act_X3 (by decide) kX4_act_105 rfl rfl dX4_act_130 ?_
          refine lv_iload_n hx hb dX4_act_133 rfl (lv_at hl 2 rfl) ?_
          refine lv_iconst (v := nI 5) hx hb dX4_act_134 (by decide) ?_
          refine xWv (L := (clsN kA ox os ob ot sl hs2 h tf tz f g (V 0) (V 1) (V 2) ln (pushN kt))) (tl := tl2) (wc := (gldW kA (fun i => os (i + 8)) g (nI (V 1)) (nI (V 2)))) (wr := ([0, 1, 2, 3, 4, 5, 6, 7, 8, 9, 10, 11, 12, 13, 14, 15, 16, 17, 18, 19].filterMap (fun i => ((clsN kA ox os ob ot sl hs2 h tf tz f g (V 0) (V 1) (V 2) ln (pushN kt)))[i]?))) hP hD hS hA [20, 21, 22, 23, 24, 25] [0, 1, 2, 3, 4, 5, 6, 7, 8, 9, 10, 11, 12, 13, 14, 15, 16, 17, 18, 19] rfl rfl (by decide) (by decide) (va_runV (As := [.int (nI i), .int (nI 5)]) (rest := []) C (c_X0_noteRefusal xl D kA (fun i => os (i + 8)) g (nI (V 2)) (V 1) i 5 (by omega) (by omega) (by decide) _) (cwV 2 hts gX4_act_X0_noteRefusal rfl rfl rfl (by decide +kernel) ⟨Nat.le_of_ble_eq_true rfl, Nat.le_of_ble_eq_true rfl⟩) (xPreVw (q0 := 0) hN (xSubL (wc := (gldW kA (fun i => os (i + 8)) g (nI (V 1)) (nI (V 2)))) (L := (clsN kA ox os ob ot sl hs2 h tf tz f g (V 0) (V 1) (V 2) ln (pushN kt))) (tl := tl2) hP [20, 21, 22, 23, 24, 25] rfl) (xSubD (wc := (gldW kA (fun i => os (i + 8)) g (nI (V 1)) (nI (V 2)))) (L := (clsN kA ox os ob ot sl hs2 h tf tz f g (V 0) (V 1) (V 2) ln (pushN kt))) (tl := tl2) hD [20, 21, 22, 23, 24, 25] (by decide) rfl).self (fun _ h => Or.inr h) rfl rfl rfl) rfl rfl hl.1 rfl (lv_room (Nat.le_of_ble_eq_true rfl)) dX4_act_135 ⟨Nat.le_of_ble_eq_true rfl, Nat.le_of_ble_eq_true rfl⟩) (fun u_135 H locs hq_135 hP hD hS => ?_)
          subst hq_135
          have hD : va_D A ((clsN kA ox os ob ot sl hs2 h tf tz f (refG g i 5) (V 0) (V 1) (V 2) ln (pushN kt)) ++ tl2) := xPermD (tl := tl2) hD [0, 1, 2, 3, 4, 5, 6, 7, 8, 9, 10, 11, 12, 13, 14, 15, 16, 17, 18, 19, 20, 21, 22, 23, 24, 25] (by decide) rfl
          have hP : va_P D vwCl ((clsN kA ox os ob ot sl hs2 h tf tz f (refG g i 5) (V 0) (V 1) (V 2) ln (pushN kt)) ++ tl2) H := xPermP (tl := tl2) hP [0, 1, 2, 3, 4, 5, 6, 7, 8, 9, 10, 11, 12, 13, 14, 15, 16, 17, 18, 19, 20, 21, 22, 23, 24, 25] rfl
          skip
          refine lv_iload_n hx hb dX4_act_138 rfl (lv_at hl 0 rfl) ?_
          exact xRetI hx hb hret (v := (rsnT (V 0) (TV V) (V (129 + 4 * i + 0)) d1 (V (129 + 4 * i + 1)))) (retC (S2 := ((acV V i (rsnT (V 0) (TV V) (V (129 + 4 * i + 0)) d1 (V (129 + 4 * i + 1)))), ln, P, (pushN kt), (pushH HH kt V), HB, LL)) (by simp [opAct, h_11, h_18, t_i, t_d1]) ⟨sl, hs2, h, tf, tz, f, (refG g i 5), tl2, Q2, clsU (sz_ref h_69).1 (sz_ref h_69).2.1 (sz_ref h_69).2.2, (by rw [← ac_8 h_69 r100]; exact relN_ref (q := 5) hr hV (by omega) (by omega)), hpd, hQ2⟩) hP hD hS dX4_act_139 hlocks
        · skip
          obtain ⟨j, a_j, e_j, t_j⟩ := hasB_ex h_97 (by omega)
          rw [e_j] at hl
          skip
          have n6 : ¬ nI j = -6 := nI_ne6 (by omega)
          have n100 : ¬ nI j = nI 100 := fun q => by rw [nI_eq (by omega) (by omega)] at q; omega
          skip
          refine lv_aload_n hx hb dX4_act_100 rfl (lv_at hl 1 rfl) ?_
          refine xGet C hN hP 0 (j := 0) rfl rfl iX4_act_X4 (by decide) kX4_act_12 rfl rfl dX4_act_101 ?_
          refine xGet C hN hP 12 (j := 1) rfl rfl iX4_act_X3 (by decide) kX4_act_105 rfl rfl dX4_act_104 ?_
          refine lv_iload_n hx hb dX4_act_107 rfl (lv_at hl 2 rfl) ?_
          refine lv_aload_n hx hb dX4_act_108 rfl (lv_at hl 1 rfl) ?_
          refine xGet C hN hP 0 (j := 0) rfl rfl iX4_act_X4 (by decide) kX4_act_12 rfl rfl dX4_act_109 ?_
          refine xGet C hN hP 12 (j := 0) rfl rfl iX4_act_X3 (by decide) kX4_act_52 rfl rfl dX4_act_112 ?_
          refine xGet C hN hP 13 (j := 0) rfl rfl iX4_act_X2 (by decide) kX4_act_79 rfl rfl dX4_act_115 ?_
          refine lv_iload_n hx hb dX4_act_118 rfl (lv_at hl 0 rfl) ?_
          refine xIald C hN hP 14 (j := j) (v := nI (TV V j 0)) rfl (by omega) (by decide) ((hR j (by omega)).1) dX4_act_119 ?_
          refine xWv (L := (clsN kA ox os ob ot sl hs2 h tf tz f g (V 0) (V 1) (V 2) ln (pushN kt))) (tl := tl2) (wc := (gldW kA (fun i => os (i + 8)) g (nI (V 1)) (nI (V 2)))) (wr := ([0, 1, 2, 3, 4, 5, 6, 7, 8, 9, 10, 11, 12, 13, 14, 15, 16, 17, 18, 19].filterMap (fun i => ((clsN kA ox os ob ot sl hs2 h tf tz f g (V 0) (V 1) (V 2) ln (pushN kt)))[i]?))) hP hD hS hA [20, 21, 22, 23, 24, 25] [0, 1, 2, 3, 4, 5, 6, 7, 8, 9, 10, 11, 12, 13, 14, 15, 16, 17, 18, 19] rfl rfl (by decide) (by decide) (va_runV (As := [.int (nI i), .int (nI (TV V j 0))]) (rest := []) C (c_X0_noteRefusal xl D kA (fun i => os (i + 8)) g (nI (V 2)) (V 1) i (TV V j 0) (by omega) (by omega) (by have := hW j (by omega); omega) _) (cwV 2 hts gX4_act_X0_noteRefusal rfl rfl rfl (by decide +kernel) ⟨Nat.le_of_ble_eq_true rfl, Nat.le_of_ble_eq_true rfl⟩) (xPreVw (q0 := 0) hN (xSubL (wc := (gldW kA (fun i => os (i + 8)) g (nI (V 1)) (nI (V 2)))) (L := (clsN kA ox os ob ot sl hs2 h tf tz f g (V 0) (V 1) (V 2) ln (pushN kt))) (tl := tl2) hP [20, 21, 22, 23, 24, 25] rfl) (xSubD (wc := (gldW kA (fun i => os (i + 8)) g (nI (V 1)) (nI (V 2)))) (L := (clsN kA ox os ob ot sl hs2 h tf tz f g (V 0) (V 1) (V 2) ln (pushN kt))) (tl := tl2) hD [20, 21, 22, 23, 24, 25] (by decide) rfl).self (fun _ h => Or.inr h) rfl rfl rfl) rfl rfl hl.1 rfl (lv_room (Nat.le_of_ble_eq_true rfl)) dX4_act_120 ⟨Nat.le_of_ble_eq_true rfl, Nat.le_of_ble_eq_true rfl⟩) (fun u_120 H locs hq_120 hP hD hS => ?_)
          subst hq_120
          have hD : va_D A ((clsN kA ox os ob ot sl hs2 h tf tz f (refG g i (TV V j 0)) (V 0) (V 1) (V 2) ln (pushN kt)) ++ tl2) := xPermD (tl := tl2) hD [0, 1, 2, 3, 4, 5, 6, 7, 8, 9, 10, 11, 12, 13, 14, 15, 16, 17, 18, 19, 20, 21, 22, 23, 24, 25] (by decide) rfl
          have hP : va_P D vwCl ((clsN kA ox os ob ot sl hs2 h tf tz f (refG g i (TV V j 0)) (V 0) (V 1) (V 2) ln (pushN kt)) ++ tl2) H := xPermP (tl := tl2) hP [0, 1, 2, 3, 4, 5, 6, 7, 8, 9, 10, 11, 12, 13, 14, 15, 16, 17, 18, 19, 20, 21, 22, 23, 24, 25] rfl
          refine lv_goto (tgt := 138) hx hb dX4_act_123 (by decide) ?_
          rw [← e_j] at hl
          refine lv_iload_n hx hb dX4_act_138 rfl (lv_at hl 0 rfl) ?_
          exact xRetI hx hb hret (v := (rsnT (V 0) (TV V) (V (129 + 4 * i + 0)) d1 (V (129 + 4 * i + 1)))) (retC (S2 := ((acV V i (rsnT (V 0) (TV V) (V (129 + 4 * i + 0)) d1 (V (129 + 4 * i + 1)))), ln, P, (pushN kt), (pushH HH kt V), HB, LL)) (by simp [opAct, h_11, h_18, t_i, t_d1]) ⟨sl, hs2, h, tf, tz, f, (refG g i (TV V j 0)), tl2, Q2, clsU (sz_ref h_69).1 (sz_ref h_69).2.1 (sz_ref h_69).2.2, (by rw [← ac_j e_j n6 n100 (toN_nI (by omega))]; exact relN_ref hr hV (by omega) (by have := hW j (by omega); omega)), hpd, hQ2⟩) hP hD hS dX4_act_139 hlocks
      · skip
        skip
        refine lv_aload_n hx hb dX4_act_72 rfl (lv_at hl 1 rfl) ?_
        refine xGet C hN hP 0 (j := 0) rfl rfl iX4_act_X4 (by decide) kX4_act_12 rfl rfl dX4_act_73 ?_
        refine xGet C hN hP 12 (j := 1) rfl rfl iX4_act_X3 (by decide) kX4_act_105 rfl rfl dX4_act_76 ?_
        refine lv_iload_n hx hb dX4_act_79 rfl (lv_at hl 2 rfl) ?_
        refine xWv (L := (clsN kA ox os ob ot sl hs2 h tf tz f g (V 0) (V 1) (V 2) ln (pushN kt))) (tl := tl2) (wc := (gldW kA (fun i => os (i + 8)) g (nI (V 1)) (nI (V 2)))) (wr := ([0, 1, 2, 3, 4, 5, 6, 7, 8, 9, 10, 11, 12, 13, 14, 15, 16, 17, 18, 19].filterMap (fun i => ((clsN kA ox os ob ot sl hs2 h tf tz f g (V 0) (V 1) (V 2) ln (pushN kt)))[i]?))) hP hD hS hA [20, 21, 22, 23, 24, 25] [0, 1, 2, 3, 4, 5, 6, 7, 8, 9, 10, 11, 12, 13, 14, 15, 16, 17, 18, 19] rfl rfl (by decide) (by decide) (va_runV (As := [.int (nI i)]) (rest := []) C (c_X0_noteDone xl D kA (fun i => os (i + 8)) g (nI (V 2)) (V 1) i (by omega) (by omega) _) (cwV 1 hts gX4_act_X0_noteDone rfl rfl rfl (by decide +kernel) ⟨Nat.le_of_ble_eq_true rfl, Nat.le_of_ble_eq_true rfl⟩) (xPreVw (q0 := 0) hN (xSubL (wc := (gldW kA (fun i => os (i + 8)) g (nI (V 1)) (nI (V 2)))) (L := (clsN kA ox os ob ot sl hs2 h tf tz f g (V 0) (V 1) (V 2) ln (pushN kt))) (tl := tl2) hP [20, 21, 22, 23, 24, 25] rfl) (xSubD (wc := (gldW kA (fun i => os (i + 8)) g (nI (V 1)) (nI (V 2)))) (L := (clsN kA ox os ob ot sl hs2 h tf tz f g (V 0) (V 1) (V 2) ln (pushN kt))) (tl := tl2) hD [20, 21, 22, 23, 24, 25] (by decide) rfl).self (fun _ h => Or.inr h) rfl rfl rfl) rfl rfl hl.1 rfl (lv_room (Nat.le_of_ble_eq_true rfl)) dX4_act_80 ⟨Nat.le_of_ble_eq_true rfl, Nat.le_of_ble_eq_true rfl⟩) (fun u_80 H locs hq_80 hP hD hS => ?_)
        rw [nI_add] at hq_80
        subst hq_80
        have hD : va_D A ((clsN kA ox os ob ot sl hs2 h tf tz f (doneG g i) (V 0) (V 1) (V 2 + 1) ln (pushN kt)) ++ tl2) := xPermD (tl := tl2) hD [0, 1, 2, 3, 4, 5, 6, 7, 8, 9, 10, 11, 12, 13, 14, 15, 16, 17, 18, 19, 20, 21, 22, 23, 24, 25] (by decide) rfl
        have hP : va_P D vwCl ((clsN kA ox os ob ot sl hs2 h tf tz f (doneG g i) (V 0) (V 1) (V 2 + 1) ln (pushN kt)) ++ tl2) H := xPermP (tl := tl2) hP [0, 1, 2, 3, 4, 5, 6, 7, 8, 9, 10, 11, 12, 13, 14, 15, 16, 17, 18, 19, 20, 21, 22, 23, 24, 25] rfl
        refine lv_goto (tgt := 138) hx hb dX4_act_83 (by decide) ?_
        skip
        refine lv_iload_n hx hb dX4_act_138 rfl (lv_at hl 0 rfl) ?_
        exact xRetI hx hb hret (v := (rsnT (V 0) (TV V) (V (129 + 4 * i + 0)) d1 (V (129 + 4 * i + 1)))) (retC (S2 := ((acV V i (rsnT (V 0) (TV V) (V (129 + 4 * i + 0)) d1 (V (129 + 4 * i + 1)))), ln, P, (pushN kt), (pushH HH kt V), HB, LL)) (by simp [opAct, h_11, h_18, t_i, t_d1]) ⟨sl, hs2, h, tf, tz, f, (doneG g i), tl2, Q2, clsU (sz_done h_69).1 (sz_done h_69).2.1 (sz_done h_69).2.2, (relN_done hr hV (by omega) h_69).1, hpd, hQ2⟩) hP hD hS dX4_act_139 hlocks
    · skip
      refine lv_iconst (v := (-1)) hx hb dX4_act_21 (by decide) ?_
      refine W.widen (k := 14) (n := 212) (Nat.le_of_ble_eq_true rfl) (Nat.le_of_ble_eq_true rfl) ?_
      exact xRetI hx hb hret (v := (-1)) (retC (S2 := (V, ln, P, kt, HH, HB, LL)) (by simp [opAct, h_11, h_18]) ⟨sl, hs, h, tf, tz, f, g, tl, Q, rfl, hr, hpd, hQ⟩) hP hD hS dX4_act_22 hlocks

set_option maxHeartbeats 8000000 in
set_option maxRecDepth 100000 in
theorem c_X4_undo (xl : Launch) (D : va_G) (kA : Nat → ClassId) (ox os ob ot : Nat → Nat) (sl hs : Nat → Option Nat) (h : Nat → Int32) (tf : Nat → Nat → Int32) (tz : Int32) (f g : Nat → Nat → Int32) (V : Nat → Nat) (ln kt : Nat) (tl : va_W) (P : Nat → Nat) (HH : Nat → Nat → Nat) (HB : Nat → Bool) (LL : Nat → Nat → Nat) (Q : Nat → Option Ent) (hI : InvS (V, ln, P, kt, HH, HB, LL)) (hr : relN V f g) (hpd : relP h ln P) (hQ : QR kA sl hs tl kt HH HB LL Q) (A : Nat → Prop) : Met xl yX4_undo wsX4_undo { frames := 4, cells := 0, slots := 0, locals := 103 } (va_Pc [.ref (ox 0)] (xPw D kA A ((clsN kA ox os ob ot sl hs h tf tz f g (V 0) (V 1) (V 2) ln kt) ++ tl))) (xQi D A (fun r u => r = (opUndo (V, ln, P, kt, HH, HB, LL) ).1 ∧ ClsR kA ox os ob ot (opUndo (V, ln, P, kt, HH, HB, LL) ).2 u)) 0 0 A := by
  refine Met.ofW (cc := cX4_undo) (maxL := 2) (ret := (some .int)) (by decide) rfl ?_
  intro xp xe xs xm args xbe xme xc s₁ B hml hv
  obtain ⟨rfl, hP, hN, hD, hA⟩ := hv
  have hret := B.returns
  have C : CallFix xp xm xc cX4_undo 2 xs ([.ref (ox 0)] : List Value).toArray wsX4_undo RX4 := ⟨B.exec, B.bytes, hml, findClass_of_methodNamed B.named, atoms_spec (ws := wsX4_undo) B.pre⟩
  have hlocks := B.notSynchronized
  obtain ⟨hx, hb, _, hown, hts⟩ := id C
  have hS : va_S A xs.heap xs.heap [] := va_S.rf
  have hl := lv_entry ([.ref (ox 0)]) (n := 2) (Nat.le_of_ble_eq_true rfl)
  rw [lg_entry_eq]
  generalize (lg_sl ([.ref (ox 0)]) ++ List.replicate (2 - (lg_sl ([.ref (ox 0)])).length) Slot.unset).toArray = ls at hl ⊢
  have hl : lv_has ls 2 [(0, .ref (ox 0))] := hl
  obtain ⟨⟨hV, hW, hM, hG⟩, hm, hwP, hk, hIH, hIL⟩ := hI
  have hR := hr.1
  refine lv_aload_n hx hb dX4_undo_0 rfl (lv_at hl 0 rfl) ?_
  refine xGet C hN hP 0 (j := 4) rfl rfl iX4_undo_X4 (by decide) kX4_undo_30 rfl rfl dX4_undo_1 ?_
  refine lv_iconst (v := nI 1) hx hb dX4_undo_4 (by decide) ?_
  refine lv_bipush (v := nI 6) hx hb dX4_undo_5 (by decide) ?_
  refine xSro C hN (As := [.int (nI kt), .int (nI 1), .int (nI 6)]) (rest := []) (c_X4_isBetween xl D kA (nI kt) (nI 1) (nI 6)) (va_cwS 3 hts gX4_undo_X4_isBetween rfl rfl rfl (by decide +kernel) ⟨Nat.le_of_ble_eq_true rfl, Nat.le_of_ble_eq_true rfl⟩) (xSubL (wc := []) hP [] rfl) rfl hl.1 rfl (Nat.le_of_ble_eq_true rfl) dX4_undo_7 ⟨Nat.le_of_ble_eq_true rfl, Nat.le_of_ble_eq_true rfl⟩ ?_
  refine xTop (y := bI (btwB kt 1 6)) (congrArg bI (inR_nI (by omega) (by decide) (by decide))) ?_
  refine xIfNeB C (tgt := 16) dX4_undo_10 (by decide) (fun h_10 => ?_) (fun h_10 => ?_)
  · skip
    have g_10 : 1 ≤ kt := by unfold btwB at h_10; simp at h_10; omega
    have g_11 : ¬ kt = 0 := by omega
    skip
    obtain ⟨c, cf, cg, c_1, c_2⟩ := hQ.2.2.2.2.2 (kt - 1) (by omega)
    have ch : hs (kt - 1) = some (c 0) := by rw [hQ.2.2.1 _ (by omega), c_1]; rfl
    have hP : va_P D vwCl ((clsN kA ox os ob ot sl hs h tf tz f g (V 0) (V 1) (V 2) ln kt ++ stW kA c cf (nI ((HH (kt - 1)) 0)) cg (nI ((HH (kt - 1)) 1)) (nI ((HH (kt - 1)) 2))) ++ (flatQ kA (setQ Q (kt - 1 + 2) none))) _ := xPerP hP (focus (L := (clsN kA ox os ob ot sl hs h tf tz f g (V 0) (V 1) (V 2) ln kt)) hQ.1 (by omega) c_1)
    have hD : va_D A ((clsN kA ox os ob ot sl hs h tf tz f g (V 0) (V 1) (V 2) ln kt ++ stW kA c cf (nI ((HH (kt - 1)) 0)) cg (nI ((HH (kt - 1)) 1)) (nI ((HH (kt - 1)) 2))) ++ (flatQ kA (setQ Q (kt - 1 + 2) none))) := xPerD hD (focus (L := (clsN kA ox os ob ot sl hs h tf tz f g (V 0) (V 1) (V 2) ln kt)) hQ.1 (by omega) c_1)
    refine lv_aload_n hx hb dX4_undo_16 rfl (lv_at hl 0 rfl) ?_
    refine xGet C hN hP 0 (j := 3) rfl rfl iX4_undo_X4 (by decide) kX4_undo_27 rfl rfl dX4_undo_17 ?_
    refine lv_aload_n hx hb dX4_undo_20 rfl (lv_at hl 0 rfl) ?_
    refine xGet C hN hP 0 (j := 4) rfl rfl iX4_undo_X4 (by decide) kX4_undo_30 rfl rfl dX4_undo_21 ?_
    refine lv_iconst (v := nI 1) hx hb dX4_undo_24 (by decide) ?_
    refine xIsub C (by omega) dX4_undo_25 ?_
    refine xAald C hN hP 2 (j := kt - 1) (v := .ref (c 0)) rfl (by omega) (by decide) (by rw [ch]; rfl) dX4_undo_26 ?_
    refine lv_astore_n (lv' := [(1, .ref (c 0)), (0, .ref (ox 0))]) hx hb dX4_undo_27 rfl hl (by decide) rfl (fun ls hl => ?_)
    refine lv_aload_n hx hb dX4_undo_28 rfl (lv_at hl 0 rfl) ?_
    refine lv_ifnonnull (tgt := 35) hx hb dX4_undo_29 (by decide) ?_
    refine lv_aload_n hx hb dX4_undo_35 rfl (lv_at hl 1 rfl) ?_
    refine xGet C hN hP 0 (j := 0) rfl rfl iX4_undo_X4 (by decide) kX4_undo_12 rfl rfl dX4_undo_36 ?_
    refine lv_aload_n hx hb dX4_undo_39 rfl (lv_at hl 0 rfl) ?_
    refine xWv (L := (clsN kA ox os ob ot sl hs h tf tz f g (V 0) (V 1) (V 2) ln kt ++ stW kA c cf (nI ((HH (kt - 1)) 0)) cg (nI ((HH (kt - 1)) 1)) (nI ((HH (kt - 1)) 2)))) (tl := (flatQ kA (setQ Q (kt - 1 + 2) none))) (wc := (stW kA os f (nI (V 0)) g (nI (V 1)) (nI (V 2)) ++ stW kA c cf (nI ((HH (kt - 1)) 0)) cg (nI ((HH (kt - 1)) 1)) (nI ((HH (kt - 1)) 2)))) (wr := ([0, 1, 2, 3, 4, 5, 6, 7, 8, 9, 10, 11].filterMap (fun i => ((clsN kA ox os ob ot sl hs h tf tz f g (V 0) (V 1) (V 2) ln kt ++ stW kA c cf (nI ((HH (kt - 1)) 0)) cg (nI ((HH (kt - 1)) 1)) (nI ((HH (kt - 1)) 2))))[i]?))) hP hD hS hA [12, 13, 14, 15, 16, 17, 18, 19, 20, 21, 22, 23, 24, 25, 26, 27, 28, 29, 30, 31, 32, 33, 34, 35, 36, 37, 38, 39] [0, 1, 2, 3, 4, 5, 6, 7, 8, 9, 10, 11] rfl rfl (by decide) (by decide) (va_runV (As := [.ref (c 0)]) (rest := []) C (c_X3_copyFrom xl D kA os c f g (nI (V 0)) (nI (V 1)) (nI (V 2)) cf cg (nI ((HH (kt - 1)) 0)) (nI ((HH (kt - 1)) 1)) (nI ((HH (kt - 1)) 2)) _) (cwV 1 hts gX4_undo_X3_copyFrom rfl rfl rfl (by decide +kernel) ⟨Nat.le_of_ble_eq_true rfl, Nat.le_of_ble_eq_true rfl⟩) (xPreVw (q0 := 0) hN (xSubL (wc := (stW kA os f (nI (V 0)) g (nI (V 1)) (nI (V 2)) ++ stW kA c cf (nI ((HH (kt - 1)) 0)) cg (nI ((HH (kt - 1)) 1)) (nI ((HH (kt - 1)) 2)))) (L := (clsN kA ox os ob ot sl hs h tf tz f g (V 0) (V 1) (V 2) ln kt ++ stW kA c cf (nI ((HH (kt - 1)) 0)) cg (nI ((HH (kt - 1)) 1)) (nI ((HH (kt - 1)) 2)))) (tl := (flatQ kA (setQ Q (kt - 1 + 2) none))) hP [12, 13, 14, 15, 16, 17, 18, 19, 20, 21, 22, 23, 24, 25, 26, 27, 28, 29, 30, 31, 32, 33, 34, 35, 36, 37, 38, 39] rfl) (xSubD (wc := (stW kA os f (nI (V 0)) g (nI (V 1)) (nI (V 2)) ++ stW kA c cf (nI ((HH (kt - 1)) 0)) cg (nI ((HH (kt - 1)) 1)) (nI ((HH (kt - 1)) 2)))) (L := (clsN kA ox os ob ot sl hs h tf tz f g (V 0) (V 1) (V 2) ln kt ++ stW kA c cf (nI ((HH (kt - 1)) 0)) cg (nI ((HH (kt - 1)) 1)) (nI ((HH (kt - 1)) 2)))) (tl := (flatQ kA (setQ Q (kt - 1 + 2) none))) hD [12, 13, 14, 15, 16, 17, 18, 19, 20, 21, 22, 23, 24, 25, 26, 27, 28, 29, 30, 31, 32, 33, 34, 35, 36, 37, 38, 39] (by decide) rfl).self (fun _ h => Or.inr h) rfl rfl rfl) rfl rfl hl.1 rfl (lv_room (Nat.le_of_ble_eq_true rfl)) dX4_undo_40 ⟨Nat.le_of_ble_eq_true rfl, Nat.le_of_ble_eq_true rfl⟩) (fun u_40 H locs hq_40 hP hD hS => ?_)
    subst hq_40
    have hD : va_D A ((clsN kA ox os ob ot sl hs h tf tz cf cg ((HH (kt - 1)) 0) ((HH (kt - 1)) 1) ((HH (kt - 1)) 2) ln kt ++ stW kA c cf (nI ((HH (kt - 1)) 0)) cg (nI ((HH (kt - 1)) 1)) (nI ((HH (kt - 1)) 2))) ++ (flatQ kA (setQ Q (kt - 1 + 2) none))) := xPermD (tl := (flatQ kA (setQ Q (kt - 1 + 2) none))) hD [0, 1, 2, 3, 4, 5, 6, 7, 8, 9, 10, 11, 12, 13, 14, 15, 16, 17, 18, 19, 20, 21, 22, 23, 24, 25, 26, 27, 28, 29, 30, 31, 32, 33, 34, 35, 36, 37, 38, 39] (by decide) rfl
    have hP : va_P D vwCl ((clsN kA ox os ob ot sl hs h tf tz cf cg ((HH (kt - 1)) 0) ((HH (kt - 1)) 1) ((HH (kt - 1)) 2) ln kt ++ stW kA c cf (nI ((HH (kt - 1)) 0)) cg (nI ((HH (kt - 1)) 1)) (nI ((HH (kt - 1)) 2))) ++ (flatQ kA (setQ Q (kt - 1 + 2) none))) H := xPermP (tl := (flatQ kA (setQ Q (kt - 1 + 2) none))) hP [0, 1, 2, 3, 4, 5, 6, 7, 8, 9, 10, 11, 12, 13, 14, 15, 16, 17, 18, 19, 20, 21, 22, 23, 24, 25, 26, 27, 28, 29, 30, 31, 32, 33, 34, 35, 36, 37, 38, 39] rfl
    refine lv_aload_n hx hb dX4_undo_43 rfl (lv_at hl 1 rfl) ?_
    refine lv_dup hx hb dX4_undo_44 rfl ?_
    refine xGet C hN hP 0 (j := 4) rfl rfl iX4_undo_X4 (by decide) kX4_undo_30 rfl rfl dX4_undo_45 ?_
    refine lv_iconst (v := nI 1) hx hb dX4_undo_48 (by decide) ?_
    refine xIsub C (by omega) dX4_undo_49 ?_
    refine xPut C hN hP hD hS 0 (j := 4) (v := .int (nI (kt - 1))) rfl rfl iX4_undo_X4 tyX4_ok nmX4 (by decide) kX4_undo_30 rfl rfl rfl rfl (Nat.le_of_ble_eq_true rfl) dX4_undo_50 (fun H locs hP hD hS => ?_)
    have hP : va_P D vwCl ((clsN kA ox os ob ot sl hs h tf tz cf cg ((HH (kt - 1)) 0) ((HH (kt - 1)) 1) ((HH (kt - 1)) 2) ln (kt - 1) ++ stW kA c cf (nI ((HH (kt - 1)) 0)) cg (nI ((HH (kt - 1)) 1)) (nI ((HH (kt - 1)) 2))) ++ (flatQ kA (setQ Q (kt - 1 + 2) none))) H := hP
    have hD : va_D A ((clsN kA ox os ob ot sl hs h tf tz cf cg ((HH (kt - 1)) 0) ((HH (kt - 1)) 1) ((HH (kt - 1)) 2) ln (kt - 1) ++ stW kA c cf (nI ((HH (kt - 1)) 0)) cg (nI ((HH (kt - 1)) 1)) (nI ((HH (kt - 1)) 2))) ++ (flatQ kA (setQ Q (kt - 1 + 2) none))) := hD
    refine lv_aload_n hx hb dX4_undo_53 rfl (lv_at hl 1 rfl) ?_
    refine xGet C hN hP 0 (j := 4) rfl rfl iX4_undo_X4 (by decide) kX4_undo_30 rfl rfl dX4_undo_54 ?_
    exact xRetI hx hb hret (v := nI (kt - 1)) (retC (S2 := ((HH (kt - 1)), ln, P, (kt - 1), HH, HB, LL)) (by simp [opUndo, g_11]) ⟨sl, hs, h, tf, tz, cf, cg, (stW kA c cf (nI ((HH (kt - 1)) 0)) cg (nI ((HH (kt - 1)) 1)) (nI ((HH (kt - 1)) 2)) ++ (flatQ kA (setQ Q (kt - 1 + 2) none))), Q, List.append_assoc (clsW kA ox os ob ot sl hs h tf tz cf cg (HH (kt - 1)) ln (kt - 1)) (stW kA c cf (nI ((HH (kt - 1)) 0)) cg (nI ((HH (kt - 1)) 1)) (nI ((HH (kt - 1)) 2))) (flatQ kA (setQ Q (kt - 1 + 2) none)), c_2, hpd, QR_back hQ (by omega) (by omega) c_1⟩) hP hD hS dX4_undo_57 hlocks
  · skip
    have g_10 : kt = 0 := by unfold btwB at h_10; simp at h_10; omega
    skip
    refine lv_bipush (v := (-5)) hx hb dX4_undo_13 (by decide) ?_
    exact xRetI hx hb hret (v := (-5)) (retC (S2 := (V, ln, P, kt, HH, HB, LL)) (by simp [opUndo, g_10]) ⟨sl, hs, h, tf, tz, f, g, tl, Q, rfl, hr, hpd, hQ⟩) hP hD hS dX4_undo_15 hlocks
