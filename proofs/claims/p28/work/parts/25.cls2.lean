theorem maskN_cong {p q : Nat → Bool} : ∀ {n : Nat}, (∀ d, d < n → p d = q d) → maskN n p = maskN n q
  | 0, _ => rfl
  | n + 1, h => by rw [maskN, maskN, maskN_cong (fun d hd => h d (by omega)), h n (by omega)]
theorem deeds_eq {n : Nat} {T : Nat → Nat → Nat} {c rk : Nat} (hc : c < 5) : (mk (fun q => decide (lstT n T (q / 6) (q % 6) ≤ rk)) >>> (nI (c * 6) &&& 31)) &&& nI 63 = nI (maskN 6 (fun d => decide (lstT n T c d ≤ rk))) := by
  rw [mask_sh hc]
  congr 1
  refine maskN_cong (fun d hd => ?_)
  show decide (lstT n T ((6 * c + d) / 6) ((6 * c + d) % 6) ≤ rk) = _
  rw [show (6 * c + d) / 6 = c by omega, show (6 * c + d) % 6 = d by omega]
theorem sz_add {V : Nat → Nat} {l k c d z : Nat} : addV V l k c d z 1 = V 1 ∧ addV V l k c d z 2 = V 2 := by
  unfold addV
  constructor
  · rw [if_neg (by omega), if_neg (by omega), if_neg (by omega), if_neg (by omega), if_neg (by omega), if_neg (by omega)]
  · rw [if_neg (by omega), if_neg (by omega), if_neg (by omega), if_neg (by omega), if_neg (by omega), if_neg (by omega)]
theorem sz_str {V : Nat → Nat} {i : Nat} : strV V i 1 = V 1 ∧ strV V i 2 = V 2 := by
  unfold strV
  constructor
  · rw [if_neg (by omega), if_neg (by omega), if_neg (by omega)]
  · rw [if_neg (by omega), if_neg (by omega), if_neg (by omega)]
theorem sz_upd {V : Nat → Nat} {q x : Nat} (h : 9 ≤ q) : updN V q x 0 = V 0 ∧ updN V q x 1 = V 1 ∧ updN V q x 2 = V 2 := by
  unfold updN; rw [if_neg (by omega), if_neg (by omega), if_neg (by omega)]; exact ⟨rfl, rfl, rfl⟩
theorem sz_jn {V : Nat → Nat} {c r : Nat} : jnV V c r 0 = V 0 ∧ jnV V c r 1 = V 1 + 1 ∧ jnV V c r 2 = V 2 := by
  unfold jnV updN
  refine ⟨?_, ?_, ?_⟩
  · rw [if_neg (by omega), if_neg (by omega), if_neg (by omega), if_neg (by omega), if_neg (by omega)]
  · rw [if_neg (by omega), if_neg (by omega), if_neg (by omega), if_neg (by omega), if_pos rfl]
  · rw [if_neg (by omega), if_neg (by omega), if_neg (by omega), if_neg (by omega), if_neg (by omega)]
theorem sz_lv {V : Nat → Nat} {i : Nat} : lvV V i 0 = V 0 ∧ lvV V i 2 = V 2 := by
  unfold lvV zrG
  constructor
  · rw [if_neg (by omega), if_neg (by omega), if_neg (by omega)]
  · rw [if_neg (by omega), if_neg (by omega), if_neg (by omega)]
set_option maxHeartbeats 8000000 in
set_option maxRecDepth 100000 in
theorem c_X4_triplesWithout (xl : Launch) (D : va_G) (kA : Nat → ClassId) (ox os ob ot : Nat → Nat) (sl hs : Nat → Option Nat) (h : Nat → Int32) (tf : Nat → Nat → Int32) (tz : Int32) (f g : Nat → Nat → Int32) (V : Nat → Nat) (ln kt : Nat) (tl : va_W) (hR : relT f (V 0) (TV V)) (hW : WfT (V 0) (TV V)) (hV : V 0 ≤ 24) (i : Nat) (hi : i < V 0) (A : Nat → Prop) : Met xl yX4_triplesWithout wsX4_triplesWithout { frames := 4, cells := 0, slots := 0, locals := 91 } (va_Pc [.ref (ox 0), .int (nI i)] (xPw D kA A ((clsN kA ox os ob ot sl hs h tf tz f g (V 0) (V 1) (V 2) ln kt) ++ tl))) (xQi D A (fun r u => r = nI (trpT (V 0 - 1) (delT (TV V) i)) ∧ ∃ (tf2 : Nat → Nat → Int32) (tz2 : Int32), u = clsW kA ox os ob ot sl hs h tf2 tz2 f g V ln kt ++ tl)) 0 0 A := by
  refine Met.ofW (cc := cX4_triplesWithout) (maxL := 2) (ret := (some .int)) (by decide) rfl ?_
  intro xp xe xs xm args xbe xme xc s₁ B hml hv
  obtain ⟨rfl, hP, hN, hD, hA⟩ := hv
  have hret := B.returns
  have C : CallFix xp xm xc cX4_triplesWithout 2 xs ([.ref (ox 0), .int (nI i)] : List Value).toArray wsX4_triplesWithout RX4 := ⟨B.exec, B.bytes, hml, findClass_of_methodNamed B.named, atoms_spec (ws := wsX4_triplesWithout) B.pre⟩
  have hlocks := B.notSynchronized
  obtain ⟨hx, hb, _, hown, hts⟩ := id C
  have hS : va_S A xs.heap xs.heap [] := va_S.rf
  have hl := lv_entry ([.ref (ox 0), .int (nI i)]) (n := 2) (Nat.le_of_ble_eq_true rfl)
  rw [lg_entry_eq]
  generalize (lg_sl ([.ref (ox 0), .int (nI i)]) ++ List.replicate (2 - (lg_sl ([.ref (ox 0), .int (nI i)])).length) Slot.unset).toArray = ls at hl ⊢
  have hl : lv_has ls 2 [(0, .ref (ox 0)), (1, .int (nI i))] := hl
  refine lv_aload_n hx hb dX4_triplesWithout_0 rfl (lv_at hl 0 rfl) ?_
  refine xGet C hN hP 0 (j := 5) rfl rfl iX4_triplesWithout_X4 (by decide) kX4_triplesWithout_37 rfl rfl dX4_triplesWithout_1 ?_
  refine lv_aload_n hx hb dX4_triplesWithout_4 rfl (lv_at hl 0 rfl) ?_
  refine xGet C hN hP 0 (j := 0) rfl rfl iX4_triplesWithout_X4 (by decide) kX4_triplesWithout_12 rfl rfl dX4_triplesWithout_5 ?_
  refine xGet C hN hP 12 (j := 0) rfl rfl iX4_triplesWithout_X3 (by decide) kX4_triplesWithout_52 rfl rfl dX4_triplesWithout_8 ?_
  refine xWv (L := (clsN kA ox os ob ot sl hs h tf tz f g (V 0) (V 1) (V 2) ln kt)) (tl := tl) (wc := (rulW kA ot tf tz ++ rulW kA (fun i => os (i + 1)) f (nI (V 0)))) (wr := ([0, 1, 2, 3, 4, 12, 20, 21, 22, 23, 24, 25].filterMap (fun i => ((clsN kA ox os ob ot sl hs h tf tz f g (V 0) (V 1) (V 2) ln kt))[i]?))) hP hD hS hA [5, 6, 7, 8, 9, 10, 11, 13, 14, 15, 16, 17, 18, 19] [0, 1, 2, 3, 4, 12, 20, 21, 22, 23, 24, 25] rfl rfl (by decide) (by decide) (va_runV (As := [.ref (os 1)]) (rest := []) C (c_X2_copyFrom xl D kA ot (fun i => os (i + 1)) tf f tz (nI (V 0)) _) (cwV 1 hts gX4_triplesWithout_X2_copyFrom rfl rfl rfl (by decide +kernel) ⟨Nat.le_of_ble_eq_true rfl, Nat.le_of_ble_eq_true rfl⟩) (xPreVw (q0 := 0) hN (xSubL (wc := (rulW kA ot tf tz ++ rulW kA (fun i => os (i + 1)) f (nI (V 0)))) (L := (clsN kA ox os ob ot sl hs h tf tz f g (V 0) (V 1) (V 2) ln kt)) (tl := tl) hP [5, 6, 7, 8, 9, 10, 11, 13, 14, 15, 16, 17, 18, 19] rfl) (xSubD (wc := (rulW kA ot tf tz ++ rulW kA (fun i => os (i + 1)) f (nI (V 0)))) (L := (clsN kA ox os ob ot sl hs h tf tz f g (V 0) (V 1) (V 2) ln kt)) (tl := tl) hD [5, 6, 7, 8, 9, 10, 11, 13, 14, 15, 16, 17, 18, 19] (by decide) rfl).self (fun _ h => Or.inr h) rfl rfl rfl) rfl rfl hl.1 rfl (lv_room (Nat.le_of_ble_eq_true rfl)) dX4_triplesWithout_11 ⟨Nat.le_of_ble_eq_true rfl, Nat.le_of_ble_eq_true rfl⟩) (fun u_11 H locs hq_11 hP hD hS => ?_)
  subst hq_11
  have hD : va_D A ((clsN kA ox os ob ot sl hs h f (nI (V 0)) f g (V 0) (V 1) (V 2) ln kt) ++ tl) := xPermD (tl := tl) hD [0, 1, 2, 3, 4, 12, 13, 14, 15, 16, 17, 18, 5, 19, 20, 21, 22, 23, 24, 25, 6, 7, 8, 9, 10, 11] (by decide) rfl
  have hP : va_P D vwCl ((clsN kA ox os ob ot sl hs h f (nI (V 0)) f g (V 0) (V 1) (V 2) ln kt) ++ tl) H := xPermP (tl := tl) hP [0, 1, 2, 3, 4, 12, 13, 14, 15, 16, 17, 18, 5, 19, 20, 21, 22, 23, 24, 25, 6, 7, 8, 9, 10, 11] rfl
  refine lv_aload_n hx hb dX4_triplesWithout_14 rfl (lv_at hl 0 rfl) ?_
  refine xGet C hN hP 0 (j := 5) rfl rfl iX4_triplesWithout_X4 (by decide) kX4_triplesWithout_37 rfl rfl dX4_triplesWithout_15 ?_
  refine lv_iload_n hx hb dX4_triplesWithout_18 rfl (lv_at hl 1 rfl) ?_
  refine xWv (L := (clsN kA ox os ob ot sl hs h f (nI (V 0)) f g (V 0) (V 1) (V 2) ln kt)) (tl := tl) (wc := (rulW kA ot f (nI (V 0)))) (wr := ([0, 1, 2, 3, 4, 12, 13, 14, 15, 16, 17, 18, 19, 20, 21, 22, 23, 24, 25].filterMap (fun i => ((clsN kA ox os ob ot sl hs h f (nI (V 0)) f g (V 0) (V 1) (V 2) ln kt))[i]?))) hP hD hS hA [5, 6, 7, 8, 9, 10, 11] [0, 1, 2, 3, 4, 12, 13, 14, 15, 16, 17, 18, 19, 20, 21, 22, 23, 24, 25] rfl rfl (by decide) (by decide) (va_runV (As := [.int (nI i)]) (rest := []) C (c_X2_remove xl D kA ot f (V 0) i hi (by omega) _) (cwV 1 hts gX4_triplesWithout_X2_remove rfl rfl rfl (by decide +kernel) ⟨Nat.le_of_ble_eq_true rfl, Nat.le_of_ble_eq_true rfl⟩) (xPreVw (q0 := 0) hN (xSubL (wc := (rulW kA ot f (nI (V 0)))) (L := (clsN kA ox os ob ot sl hs h f (nI (V 0)) f g (V 0) (V 1) (V 2) ln kt)) (tl := tl) hP [5, 6, 7, 8, 9, 10, 11] rfl) (xSubD (wc := (rulW kA ot f (nI (V 0)))) (L := (clsN kA ox os ob ot sl hs h f (nI (V 0)) f g (V 0) (V 1) (V 2) ln kt)) (tl := tl) hD [5, 6, 7, 8, 9, 10, 11] (by decide) rfl).self (fun _ h => Or.inr h) rfl rfl rfl) rfl rfl hl.1 rfl (lv_room (Nat.le_of_ble_eq_true rfl)) dX4_triplesWithout_19 ⟨Nat.le_of_ble_eq_true rfl, Nat.le_of_ble_eq_true rfl⟩) (fun u_19 H locs hq_19 hP hD hS => ?_)
  subst hq_19
  have hD : va_D A ((clsN kA ox os ob ot sl hs h (delF f i) (nI (V 0 - 1)) f g (V 0) (V 1) (V 2) ln kt) ++ tl) := xPermD (tl := tl) hD [0, 1, 2, 3, 4, 19, 20, 21, 22, 23, 24, 25, 5, 6, 7, 8, 9, 10, 11, 12, 13, 14, 15, 16, 17, 18] (by decide) rfl
  have hP : va_P D vwCl ((clsN kA ox os ob ot sl hs h (delF f i) (nI (V 0 - 1)) f g (V 0) (V 1) (V 2) ln kt) ++ tl) H := xPermP (tl := tl) hP [0, 1, 2, 3, 4, 19, 20, 21, 22, 23, 24, 25, 5, 6, 7, 8, 9, 10, 11, 12, 13, 14, 15, 16, 17, 18] rfl
  refine lv_aload_n hx hb dX4_triplesWithout_22 rfl (lv_at hl 0 rfl) ?_
  refine xGet C hN hP 0 (j := 5) rfl rfl iX4_triplesWithout_X4 (by decide) kX4_triplesWithout_37 rfl rfl dX4_triplesWithout_23 ?_
  refine xVro C hN (As := []) (rest := []) (q0 := 0) (c_X2_triples xl D kA ot (delF f i) (V 0 - 1) (delT (TV V) i) (relT_del hR (by omega)) (WfT_del hW) (by omega)) (cwV 0 hts gX4_triplesWithout_X2_triples rfl rfl rfl (by decide +kernel) ⟨Nat.le_of_ble_eq_true rfl, Nat.le_of_ble_eq_true rfl⟩) (xSubL (wc := (rulW kA ot (delF f i) (nI (V 0 - 1)))) hP [5, 6, 7, 8, 9, 10, 11] rfl) rfl rfl rfl rfl hl.1 rfl (Nat.le_of_ble_eq_true rfl) dX4_triplesWithout_26 ⟨Nat.le_of_ble_eq_true rfl, Nat.le_of_ble_eq_true rfl⟩ ?_
  exact xRetI hx hb hret (v := nI (trpT (V 0 - 1) (delT (TV V) i))) (⟨rfl, delF f i, nI (V 0 - 1), rfl⟩) hP hD hS dX4_triplesWithout_29 hlocks

set_option maxHeartbeats 8000000 in
set_option maxRecDepth 100000 in
theorem c_X4_triplesWithWaiver (xl : Launch) (D : va_G) (kA : Nat → ClassId) (ox os ob ot : Nat → Nat) (sl hs : Nat → Option Nat) (h : Nat → Int32) (tf : Nat → Nat → Int32) (tz : Int32) (f g : Nat → Nat → Int32) (V : Nat → Nat) (ln kt : Nat) (tl : va_W) (hR : relT f (V 0) (TV V)) (hW : WfT (V 0) (TV V)) (hV : V 0 ≤ 24) (l z : Nat) (hll : l < 5) (hz : 1 ≤ z ∧ z ≤ 9) (A : Nat → Prop) : Met xl yX4_triplesWithWaiver wsX4_triplesWithWaiver { frames := 4, cells := 0, slots := 0, locals := 91 } (va_Pc [.ref (ox 0), .int (nI l), .int (nI z)] (xPw D kA A ((clsN kA ox os ob ot sl hs h tf tz f g (V 0) (V 1) (V 2) ln kt) ++ tl))) (xQi D A (fun r u => r = nI (trpT (V 0 + 1) (wavT (V 0) (TV V) l z)) ∧ ∃ (tf2 : Nat → Nat → Int32) (tz2 : Int32), u = clsW kA ox os ob ot sl hs h tf2 tz2 f g V ln kt ++ tl)) 0 0 A := by
  refine Met.ofW (cc := cX4_triplesWithWaiver) (maxL := 3) (ret := (some .int)) (by decide) rfl ?_
  intro xp xe xs xm args xbe xme xc s₁ B hml hv
  obtain ⟨rfl, hP, hN, hD, hA⟩ := hv
  have hret := B.returns
  have C : CallFix xp xm xc cX4_triplesWithWaiver 3 xs ([.ref (ox 0), .int (nI l), .int (nI z)] : List Value).toArray wsX4_triplesWithWaiver RX4 := ⟨B.exec, B.bytes, hml, findClass_of_methodNamed B.named, atoms_spec (ws := wsX4_triplesWithWaiver) B.pre⟩
  have hlocks := B.notSynchronized
  obtain ⟨hx, hb, _, hown, hts⟩ := id C
  have hS : va_S A xs.heap xs.heap [] := va_S.rf
  have hl := lv_entry ([.ref (ox 0), .int (nI l), .int (nI z)]) (n := 3) (Nat.le_of_ble_eq_true rfl)
  rw [lg_entry_eq]
  generalize (lg_sl ([.ref (ox 0), .int (nI l), .int (nI z)]) ++ List.replicate (3 - (lg_sl ([.ref (ox 0), .int (nI l), .int (nI z)])).length) Slot.unset).toArray = ls at hl ⊢
  have hl : lv_has ls 3 [(0, .ref (ox 0)), (1, .int (nI l)), (2, .int (nI z))] := hl
  refine lv_aload_n hx hb dX4_triplesWithWaiver_0 rfl (lv_at hl 0 rfl) ?_
  refine xGet C hN hP 0 (j := 5) rfl rfl iX4_triplesWithWaiver_X4 (by decide) kX4_triplesWithWaiver_37 rfl rfl dX4_triplesWithWaiver_1 ?_
  refine lv_aload_n hx hb dX4_triplesWithWaiver_4 rfl (lv_at hl 0 rfl) ?_
  refine xGet C hN hP 0 (j := 0) rfl rfl iX4_triplesWithWaiver_X4 (by decide) kX4_triplesWithWaiver_12 rfl rfl dX4_triplesWithWaiver_5 ?_
  refine xGet C hN hP 12 (j := 0) rfl rfl iX4_triplesWithWaiver_X3 (by decide) kX4_triplesWithWaiver_52 rfl rfl dX4_triplesWithWaiver_8 ?_
  refine xWv (L := (clsN kA ox os ob ot sl hs h tf tz f g (V 0) (V 1) (V 2) ln kt)) (tl := tl) (wc := (rulW kA ot tf tz ++ rulW kA (fun i => os (i + 1)) f (nI (V 0)))) (wr := ([0, 1, 2, 3, 4, 12, 20, 21, 22, 23, 24, 25].filterMap (fun i => ((clsN kA ox os ob ot sl hs h tf tz f g (V 0) (V 1) (V 2) ln kt))[i]?))) hP hD hS hA [5, 6, 7, 8, 9, 10, 11, 13, 14, 15, 16, 17, 18, 19] [0, 1, 2, 3, 4, 12, 20, 21, 22, 23, 24, 25] rfl rfl (by decide) (by decide) (va_runV (As := [.ref (os 1)]) (rest := []) C (c_X2_copyFrom xl D kA ot (fun i => os (i + 1)) tf f tz (nI (V 0)) _) (cwV 1 hts gX4_triplesWithWaiver_X2_copyFrom rfl rfl rfl (by decide +kernel) ⟨Nat.le_of_ble_eq_true rfl, Nat.le_of_ble_eq_true rfl⟩) (xPreVw (q0 := 0) hN (xSubL (wc := (rulW kA ot tf tz ++ rulW kA (fun i => os (i + 1)) f (nI (V 0)))) (L := (clsN kA ox os ob ot sl hs h tf tz f g (V 0) (V 1) (V 2) ln kt)) (tl := tl) hP [5, 6, 7, 8, 9, 10, 11, 13, 14, 15, 16, 17, 18, 19] rfl) (xSubD (wc := (rulW kA ot tf tz ++ rulW kA (fun i => os (i + 1)) f (nI (V 0)))) (L := (clsN kA ox os ob ot sl hs h tf tz f g (V 0) (V 1) (V 2) ln kt)) (tl := tl) hD [5, 6, 7, 8, 9, 10, 11, 13, 14, 15, 16, 17, 18, 19] (by decide) rfl).self (fun _ h => Or.inr h) rfl rfl rfl) rfl rfl hl.1 rfl (lv_room (Nat.le_of_ble_eq_true rfl)) dX4_triplesWithWaiver_11 ⟨Nat.le_of_ble_eq_true rfl, Nat.le_of_ble_eq_true rfl⟩) (fun u_11 H locs hq_11 hP hD hS => ?_)
  subst hq_11
  have hD : va_D A ((clsN kA ox os ob ot sl hs h f (nI (V 0)) f g (V 0) (V 1) (V 2) ln kt) ++ tl) := xPermD (tl := tl) hD [0, 1, 2, 3, 4, 12, 13, 14, 15, 16, 17, 18, 5, 19, 20, 21, 22, 23, 24, 25, 6, 7, 8, 9, 10, 11] (by decide) rfl
  have hP : va_P D vwCl ((clsN kA ox os ob ot sl hs h f (nI (V 0)) f g (V 0) (V 1) (V 2) ln kt) ++ tl) H := xPermP (tl := tl) hP [0, 1, 2, 3, 4, 12, 13, 14, 15, 16, 17, 18, 5, 19, 20, 21, 22, 23, 24, 25, 6, 7, 8, 9, 10, 11] rfl
  refine lv_aload_n hx hb dX4_triplesWithWaiver_14 rfl (lv_at hl 0 rfl) ?_
  refine xGet C hN hP 0 (j := 5) rfl rfl iX4_triplesWithWaiver_X4 (by decide) kX4_triplesWithWaiver_37 rfl rfl dX4_triplesWithWaiver_15 ?_
  refine lv_iload_n hx hb dX4_triplesWithWaiver_18 rfl (lv_at hl 1 rfl) ?_
  refine lv_iconst (v := nI 2) hx hb dX4_triplesWithWaiver_19 (by decide) ?_
  refine lv_iconst (v := nI 5) hx hb dX4_triplesWithWaiver_20 (by decide) ?_
  refine lv_bipush (v := nI 6) hx hb dX4_triplesWithWaiver_21 (by decide) ?_
  refine lv_iload_n hx hb dX4_triplesWithWaiver_23 rfl (lv_at hl 2 rfl) ?_
  refine xWv (L := (clsN kA ox os ob ot sl hs h f (nI (V 0)) f g (V 0) (V 1) (V 2) ln kt)) (tl := tl) (wc := (rulW kA ot f (nI (V 0)))) (wr := ([0, 1, 2, 3, 4, 12, 13, 14, 15, 16, 17, 18, 19, 20, 21, 22, 23, 24, 25].filterMap (fun i => ((clsN kA ox os ob ot sl hs h f (nI (V 0)) f g (V 0) (V 1) (V 2) ln kt))[i]?))) hP hD hS hA [5, 6, 7, 8, 9, 10, 11] [0, 1, 2, 3, 4, 12, 13, 14, 15, 16, 17, 18, 19, 20, 21, 22, 23, 24, 25] rfl rfl (by decide) (by decide) (va_runV (As := [.int (nI l), .int (nI 2), .int (nI 5), .int (nI 6), .int (nI z)]) (rest := []) C (c_X2_append xl D kA ot f (V 0) l 2 5 6 z (by omega) (by omega) (by omega) _) (cwV 5 hts gX4_triplesWithWaiver_X2_append rfl rfl rfl (by decide +kernel) ⟨Nat.le_of_ble_eq_true rfl, Nat.le_of_ble_eq_true rfl⟩) (xPreVw (q0 := 0) hN (xSubL (wc := (rulW kA ot f (nI (V 0)))) (L := (clsN kA ox os ob ot sl hs h f (nI (V 0)) f g (V 0) (V 1) (V 2) ln kt)) (tl := tl) hP [5, 6, 7, 8, 9, 10, 11] rfl) (xSubD (wc := (rulW kA ot f (nI (V 0)))) (L := (clsN kA ox os ob ot sl hs h f (nI (V 0)) f g (V 0) (V 1) (V 2) ln kt)) (tl := tl) hD [5, 6, 7, 8, 9, 10, 11] (by decide) rfl).self (fun _ h => Or.inr h) rfl rfl rfl) rfl rfl hl.1 rfl (lv_room (Nat.le_of_ble_eq_true rfl)) dX4_triplesWithWaiver_24 ⟨Nat.le_of_ble_eq_true rfl, Nat.le_of_ble_eq_true rfl⟩) (fun u_24 H locs hq_24 hP hD hS => ?_)
  subst hq_24
  have hD : va_D A ((clsN kA ox os ob ot sl hs h (appF f (V 0) l 2 5 6 z) (nI (V 0 + 1)) f g (V 0) (V 1) (V 2) ln kt) ++ tl) := xPermD (tl := tl) hD [0, 1, 2, 3, 4, 19, 20, 21, 22, 23, 24, 25, 5, 6, 7, 8, 9, 10, 11, 12, 13, 14, 15, 16, 17, 18] (by decide) rfl
  have hP : va_P D vwCl ((clsN kA ox os ob ot sl hs h (appF f (V 0) l 2 5 6 z) (nI (V 0 + 1)) f g (V 0) (V 1) (V 2) ln kt) ++ tl) H := xPermP (tl := tl) hP [0, 1, 2, 3, 4, 19, 20, 21, 22, 23, 24, 25, 5, 6, 7, 8, 9, 10, 11, 12, 13, 14, 15, 16, 17, 18] rfl
  refine lv_aload_n hx hb dX4_triplesWithWaiver_27 rfl (lv_at hl 0 rfl) ?_
  refine xGet C hN hP 0 (j := 5) rfl rfl iX4_triplesWithWaiver_X4 (by decide) kX4_triplesWithWaiver_37 rfl rfl dX4_triplesWithWaiver_28 ?_
  refine xVro C hN (As := []) (rest := []) (q0 := 0) (c_X2_triples xl D kA ot (appF f (V 0) l 2 5 6 z) (V 0 + 1) (wavT (V 0) (TV V) l z) (relT_wav hR) (WfT_wav hW hll hz) (by omega)) (cwV 0 hts gX4_triplesWithWaiver_X2_triples rfl rfl rfl (by decide +kernel) ⟨Nat.le_of_ble_eq_true rfl, Nat.le_of_ble_eq_true rfl⟩) (xSubL (wc := (rulW kA ot (appF f (V 0) l 2 5 6 z) (nI (V 0 + 1)))) hP [5, 6, 7, 8, 9, 10, 11] rfl) rfl rfl rfl rfl hl.1 rfl (Nat.le_of_ble_eq_true rfl) dX4_triplesWithWaiver_31 ⟨Nat.le_of_ble_eq_true rfl, Nat.le_of_ble_eq_true rfl⟩ ?_
  exact xRetI hx hb hret (v := nI (trpT (V 0 + 1) (wavT (V 0) (TV V) l z))) (⟨rfl, appF f (V 0) l 2 5 6 z, nI (V 0 + 1), rfl⟩) hP hD hS dX4_triplesWithWaiver_34 hlocks

set_option maxHeartbeats 8000000 in
set_option maxRecDepth 100000 in
theorem c_X4_isIdle (xl : Launch) (D : va_G) (kA : Nat → ClassId) (ox os ob ot : Nat → Nat) (sl hs : Nat → Option Nat) (h : Nat → Int32) (tf : Nat → Nat → Int32) (tz : Int32) (f g : Nat → Nat → Int32) (V : Nat → Nat) (ln kt : Nat) (tl : va_W) (hR : relT f (V 0) (TV V)) (hW : WfT (V 0) (TV V)) (hV : V 0 ≤ 24) (i q : Nat) (hi : i < V 0) (hq9 : q < 2 ^ 31) (A : Nat → Prop) : Met xl yX4_isIdle wsX4_isIdle { frames := 5, cells := 0, slots := 0, locals := 112 } (va_Pc [.ref (ox 0), .int (nI i), .int (nI q)] (xPw D kA A ((clsN kA ox os ob ot sl hs h tf tz f g (V 0) (V 1) (V 2) ln kt) ++ tl))) (xQi D A (fun r u => r = bI (decide (trpT (V 0 - 1) (delT (TV V) i) = q)) ∧ ∃ (tf2 : Nat → Nat → Int32) (tz2 : Int32), u = clsW kA ox os ob ot sl hs h tf2 tz2 f g V ln kt ++ tl)) 0 0 A := by
  refine Met.ofW (cc := cX4_isIdle) (maxL := 3) (ret := (some .boolean)) (by decide) rfl ?_
  intro xp xe xs xm args xbe xme xc s₁ B hml hv
  obtain ⟨rfl, hP, hN, hD, hA⟩ := hv
  have hret := B.returns
  have C : CallFix xp xm xc cX4_isIdle 3 xs ([.ref (ox 0), .int (nI i), .int (nI q)] : List Value).toArray wsX4_isIdle RX4 := ⟨B.exec, B.bytes, hml, findClass_of_methodNamed B.named, atoms_spec (ws := wsX4_isIdle) B.pre⟩
  have hlocks := B.notSynchronized
  obtain ⟨hx, hb, _, hown, hts⟩ := id C
  have hS : va_S A xs.heap xs.heap [] := va_S.rf
  have hl := lv_entry ([.ref (ox 0), .int (nI i), .int (nI q)]) (n := 3) (Nat.le_of_ble_eq_true rfl)
  rw [lg_entry_eq]
  generalize (lg_sl ([.ref (ox 0), .int (nI i), .int (nI q)]) ++ List.replicate (3 - (lg_sl ([.ref (ox 0), .int (nI i), .int (nI q)])).length) Slot.unset).toArray = ls at hl ⊢
  have hl : lv_has ls 3 [(0, .ref (ox 0)), (1, .int (nI i)), (2, .int (nI q))] := hl
  refine lv_aload_n hx hb dX4_isIdle_0 rfl (lv_at hl 0 rfl) ?_
  refine lv_iload_n hx hb dX4_isIdle_1 rfl (lv_at hl 1 rfl) ?_
  refine xWWi hS (va_runV (As := [.int (nI i)]) (rest := []) C (c_X4_triplesWithout xl D kA ox os ob ot sl hs h tf tz f g V ln kt tl hR hW hV i hi A) (cwV 1 hts gX4_isIdle_X4_triplesWithout rfl rfl rfl (by decide +kernel) ⟨Nat.le_of_ble_eq_true rfl, Nat.le_of_ble_eq_true rfl⟩) (xPreVw (q0 := 0) hN hP hD (xAll hS hA) rfl rfl rfl) rfl rfl hl.1 rfl (lv_room (Nat.le_of_ble_eq_true rfl)) dX4_isIdle_2 ⟨Nat.le_of_ble_eq_true rfl, Nat.le_of_ble_eq_true rfl⟩) (fun r_2 u_2 H locs hq_2 hP hD hS => ?_)
  obtain ⟨rfl, tf_2, tz_2, rfl⟩ := hq_2
  have hP : va_P D vwCl ((clsN kA ox os ob ot sl hs h tf_2 tz_2 f g (V 0) (V 1) (V 2) ln kt) ++ tl) H := hP
  have hD : va_D A ((clsN kA ox os ob ot sl hs h tf_2 tz_2 f g (V 0) (V 1) (V 2) ln kt) ++ tl) := hD
  refine lv_iload_n hx hb dX4_isIdle_5 rfl (lv_at hl 2 rfl) ?_
  refine xIcmpNe C (tgt := 13) (by have := trp_le (n := V 0 - 1) (T := delT (TV V) i); omega) hq9 dX4_isIdle_6 (by decide) (fun h_6 => ?_) (fun h_6 => ?_)
  · skip
    refine lv_iconst (v := nI 0) hx hb dX4_isIdle_13 (by decide) ?_
    exact xRetZ hx hb hret (v := nI 0) (xNar0) (⟨by first | (rw [decide_eq_true h_6]; rfl) | (rw [decide_eq_false h_6]; rfl), tf_2, tz_2, rfl⟩) hP hD hS dX4_isIdle_14 hlocks
  · skip
    refine lv_iconst (v := nI 1) hx hb dX4_isIdle_9 (by decide) ?_
    refine lv_goto (tgt := 14) hx hb dX4_isIdle_10 (by decide) ?_
    exact xRetZ hx hb hret (v := nI 1) (xNar1) (⟨by first | (rw [decide_eq_true h_6]; rfl) | (rw [decide_eq_false h_6]; rfl), tf_2, tz_2, rfl⟩) hP hD hS dX4_isIdle_14 hlocks

set_option maxHeartbeats 8000000 in
set_option maxRecDepth 100000 in
theorem c_X4_firstIdle (xl : Launch) (D : va_G) (kA : Nat → ClassId) (ox os ob ot : Nat → Nat) (sl hs : Nat → Option Nat) (h : Nat → Int32) (tf : Nat → Nat → Int32) (tz : Int32) (f g : Nat → Nat → Int32) (V : Nat → Nat) (ln kt : Nat) (tl : va_W) (hR : relT f (V 0) (TV V)) (hW : WfT (V 0) (TV V)) (hV : V 0 ≤ 24) (A : Nat → Prop) : Met xl yX4_firstIdle wsX4_firstIdle { frames := 6, cells := 0, slots := 0, locals := 134 } (va_Pc [.ref (ox 0)] (xPw D kA A ((clsN kA ox os ob ot sl hs h tf tz f g (V 0) (V 1) (V 2) ln kt) ++ tl))) (xQi D A (fun r u => r = fiR V ∧ ∃ (tf2 : Nat → Nat → Int32) (tz2 : Int32), u = clsW kA ox os ob ot sl hs h tf2 tz2 f g V ln kt ++ tl)) 0 0 A := by
  refine Met.ofW (cc := cX4_firstIdle) (maxL := 3) (ret := (some .int)) (by decide) rfl ?_
  intro xp xe xs xm args xbe xme xc s₁ B hml hv
  obtain ⟨rfl, hP, hN, hD, hA⟩ := hv
  have hret := B.returns
  have C : CallFix xp xm xc cX4_firstIdle 3 xs ([.ref (ox 0)] : List Value).toArray wsX4_firstIdle RX4 := ⟨B.exec, B.bytes, hml, findClass_of_methodNamed B.named, atoms_spec (ws := wsX4_firstIdle) B.pre⟩
  have hlocks := B.notSynchronized
  obtain ⟨hx, hb, _, hown, hts⟩ := id C
  have hS : va_S A xs.heap xs.heap [] := va_S.rf
  have hl := lv_entry ([.ref (ox 0)]) (n := 3) (Nat.le_of_ble_eq_true rfl)
  rw [lg_entry_eq]
  generalize (lg_sl ([.ref (ox 0)]) ++ List.replicate (3 - (lg_sl ([.ref (ox 0)])).length) Slot.unset).toArray = ls at hl ⊢
  have hl : lv_has ls 3 [(0, .ref (ox 0))] := hl
  refine lv_aload_n hx hb dX4_firstIdle_0 rfl (lv_at hl 0 rfl) ?_
  refine xGet C hN hP 0 (j := 0) rfl rfl iX4_firstIdle_X4 (by decide) kX4_firstIdle_12 rfl rfl dX4_firstIdle_1 ?_
  refine xGet C hN hP 12 (j := 0) rfl rfl iX4_firstIdle_X3 (by decide) kX4_firstIdle_52 rfl rfl dX4_firstIdle_4 ?_
  refine xVro C hN (As := []) (rest := []) (q0 := 0) (c_X2_triples xl D kA (fun i => os (i + 1)) f (V 0) (TV V) hR hW (by omega)) (cwV 0 hts gX4_firstIdle_X2_triples rfl rfl rfl (by decide +kernel) ⟨Nat.le_of_ble_eq_true rfl, Nat.le_of_ble_eq_true rfl⟩) (xSubL (wc := (rulW kA (fun i => os (i + 1)) f (nI (V 0)))) hP [13, 14, 15, 16, 17, 18, 19] rfl) rfl rfl rfl rfl hl.1 rfl (Nat.le_of_ble_eq_true rfl) dX4_firstIdle_7 ⟨Nat.le_of_ble_eq_true rfl, Nat.le_of_ble_eq_true rfl⟩ ?_
  refine lv_istore_n (lv' := [(1, .int (nI (trpT (V 0) (TV V)))), (0, .ref (ox 0))]) hx hb dX4_firstIdle_10 rfl hl (by decide) rfl (fun ls hl => ?_)
  refine lv_iconst (v := nI 0) hx hb dX4_firstIdle_11 (by decide) ?_
  refine lv_istore_n (lv' := [(2, .int (nI 0)), (1, .int (nI (trpT (V 0) (TV V)))), (0, .ref (ox 0))]) hx hb dX4_firstIdle_12 rfl hl (by decide) rfl (fun ls hl => ?_)
  have L13 : ∀ (fuel : Nat), ∀ (i : Nat) (tf1 : Nat → Nat → Int32) (tz1 : Int32) (hmu : V 0 - i < fuel) (hi : i ≤ V 0) (hj : ∀ j, j < i → idB V j = false) (H : Heap) (locs : List Loc) (_ : va_P D vwCl ((clsN kA ox os ob ot sl hs h tf1 tz1 f g (V 0) (V 1) (V 2) ln kt) ++ tl) H) (_ : va_D A ((clsN kA ox os ob ot sl hs h tf1 tz1 f g (V 0) (V 1) (V 2) ln kt) ++ tl)) (_ : va_S A xs.heap H locs) (ls : Array Slot) (_ : lv_has ls 3 [(2, .int (nI i)), (1, .int (nI (trpT (V 0) (TV V)))), (0, .ref (ox 0))]), W xp xl xe (headSpec wsX4_firstIdle { frames := 6, cells := 0, slots := 0, locals := 134 }).room xs xm ([.ref (ox 0)] : List Value).toArray xbe xme xc H locs 0 0 (MQ xbe (xQi D A (fun r u => r = fiR V ∧ ∃ (tf2 : Nat → Nat → Int32) (tz2 : Int32), u = clsW kA ox os ob ot sl hs h tf2 tz2 f g V ln kt ++ tl)) ([.ref (ox 0)] : List Value).toArray xs 0 0 A) (F0 xm 13 ls []) := by
    intro fuel
    induction fuel with
    | zero => intro i tf1 tz1 hmu; exact absurd hmu (Nat.not_lt_zero _)
    | succ fuel ih13 =>
      intro i tf1 tz1 hmu hi hj H locs hP hD hS ls hl
      refine lv_iload_n hx hb dX4_firstIdle_13 rfl (lv_at hl 0 rfl) ?_
      refine lv_aload_n hx hb dX4_firstIdle_14 rfl (lv_at hl 2 rfl) ?_
      refine xGet C hN hP 0 (j := 0) rfl rfl iX4_firstIdle_X4 (by decide) kX4_firstIdle_12 rfl rfl dX4_firstIdle_15 ?_
      refine xGet C hN hP 12 (j := 0) rfl rfl iX4_firstIdle_X3 (by decide) kX4_firstIdle_52 rfl rfl dX4_firstIdle_18 ?_
      refine xGet C hN hP 13 (j := 6) rfl rfl iX4_firstIdle_X2 (by decide) kX4_firstIdle_55 rfl rfl dX4_firstIdle_21 ?_
      refine xIcmpGe C (tgt := 44) (by omega) (by omega) dX4_firstIdle_24 (by decide) (fun h_24 => ?_) (fun h_24 => ?_)
      · skip
        refine lv_bipush (v := (-6)) hx hb dX4_firstIdle_44 (by decide) ?_
        exact xRetI hx hb hret (v := (-6)) (⟨fi_none (fun j h => hj j (by omega)), tf1, tz1, rfl⟩) hP hD hS dX4_firstIdle_46 hlocks
      · skip
        refine lv_aload_n hx hb dX4_firstIdle_27 rfl (lv_at hl 2 rfl) ?_
        refine lv_iload_n hx hb dX4_firstIdle_28 rfl (lv_at hl 0 rfl) ?_
        refine lv_iload_n hx hb dX4_firstIdle_29 rfl (lv_at hl 1 rfl) ?_
        refine xWWi hS (va_runV (As := [.int (nI i), .int (nI (trpT (V 0) (TV V)))]) (rest := []) C (c_X4_isIdle xl D kA ox os ob ot sl hs h tf1 tz1 f g V ln kt tl hR hW hV i (trpT (V 0) (TV V)) (by omega) (by have := trp_le (n := V 0) (T := TV V); omega) A) (cwV 2 hts gX4_firstIdle_X4_isIdle rfl rfl rfl (by decide +kernel) ⟨Nat.le_of_ble_eq_true rfl, Nat.le_of_ble_eq_true rfl⟩) (xPreVw (q0 := 0) hN hP hD (xAll hS hA) rfl rfl rfl) rfl rfl hl.1 rfl (lv_room (Nat.le_of_ble_eq_true rfl)) dX4_firstIdle_30 ⟨Nat.le_of_ble_eq_true rfl, Nat.le_of_ble_eq_true rfl⟩) (fun r_30 u_30 H locs hq_30 hP hD hS => ?_)
        obtain ⟨rfl, tf_30, tz_30, rfl⟩ := hq_30
        have hP : va_P D vwCl ((clsN kA ox os ob ot sl hs h tf_30 tz_30 f g (V 0) (V 1) (V 2) ln kt) ++ tl) H := hP
        have hD : va_D A ((clsN kA ox os ob ot sl hs h tf_30 tz_30 f g (V 0) (V 1) (V 2) ln kt) ++ tl) := hD
        refine xTop (y := bI (idB V i)) (congrArg bI (idle_eq hW (by omega) (by omega)).symm) ?_
        refine xIfEqB C (tgt := 38) dX4_firstIdle_33 (by decide) (fun h_33 => ?_) (fun h_33 => ?_)
        · skip
          refine xIinc C (kx := 0) (d := 1) (lv' := [(2, .int (nI (i + 1))), (1, .int (nI (trpT (V 0) (TV V)))), (0, .ref (ox 0))]) dX4_firstIdle_38 hl rfl (by decide) (by decide) rfl (fun ls hl => ?_)
          refine lv_goto (tgt := 13) hx hb dX4_firstIdle_41 (by decide) ?_
          have hP : va_P D vwCl ((clsN kA ox os ob ot sl hs h tf_30 tz_30 f g (V 0) (V 1) (V 2) ln kt) ++ tl) H := hP
          exact ih13 (i + 1) tf_30 tz_30 (by omega) (by omega) (fun j h => by rcases Nat.lt_or_ge j i with c | c; exact hj j c; rw [show j = i by omega]; exact h_33) _ _ hP hD hS _ (lv_sub hl [0, 1, 2] rfl)
        · skip
          refine lv_iload_n hx hb dX4_firstIdle_36 rfl (lv_at hl 0 rfl) ?_
          exact xRetI hx hb hret (v := nI i) (⟨fi_at (by omega) h_33 hj, tf_30, tz_30, rfl⟩) hP hD hS dX4_firstIdle_37 hlocks
  exact L13 _ 0 tf tz (Nat.lt_succ_self _) (by omega) (fun j h => absurd h (Nat.not_lt_zero j)) _ _ hP hD hS _ (lv_sub hl [0, 1, 2] rfl)

set_option maxHeartbeats 8000000 in
set_option maxRecDepth 100000 in
theorem c_X4_idleRules (xl : Launch) (D : va_G) (kA : Nat → ClassId) (ox os ob ot : Nat → Nat) (sl hs : Nat → Option Nat) (h : Nat → Int32) (tf : Nat → Nat → Int32) (tz : Int32) (f g : Nat → Nat → Int32) (V : Nat → Nat) (ln kt : Nat) (tl : va_W) (hR : relT f (V 0) (TV V)) (hW : WfT (V 0) (TV V)) (hV : V 0 ≤ 24) (A : Nat → Prop) : Met xl yX4_idleRules wsX4_idleRules { frames := 6, cells := 0, slots := 0, locals := 134 } (va_Pc [.ref (ox 0)] (xPw D kA A ((clsN kA ox os ob ot sl hs h tf tz f g (V 0) (V 1) (V 2) ln kt) ++ tl))) (xQi D A (fun r u => r = nI (cntN (V 0) (idB V)) ∧ ∃ (tf2 : Nat → Nat → Int32) (tz2 : Int32), u = clsW kA ox os ob ot sl hs h tf2 tz2 f g V ln kt ++ tl)) 0 0 A := by
  refine Met.ofW (cc := cX4_idleRules) (maxL := 4) (ret := (some .int)) (by decide) rfl ?_
  intro xp xe xs xm args xbe xme xc s₁ B hml hv
  obtain ⟨rfl, hP, hN, hD, hA⟩ := hv
  have hret := B.returns
  have C : CallFix xp xm xc cX4_idleRules 4 xs ([.ref (ox 0)] : List Value).toArray wsX4_idleRules RX4 := ⟨B.exec, B.bytes, hml, findClass_of_methodNamed B.named, atoms_spec (ws := wsX4_idleRules) B.pre⟩
  have hlocks := B.notSynchronized
  obtain ⟨hx, hb, _, hown, hts⟩ := id C
  have hS : va_S A xs.heap xs.heap [] := va_S.rf
  have hl := lv_entry ([.ref (ox 0)]) (n := 4) (Nat.le_of_ble_eq_true rfl)
  rw [lg_entry_eq]
  generalize (lg_sl ([.ref (ox 0)]) ++ List.replicate (4 - (lg_sl ([.ref (ox 0)])).length) Slot.unset).toArray = ls at hl ⊢
  have hl : lv_has ls 4 [(0, .ref (ox 0))] := hl
  refine lv_aload_n hx hb dX4_idleRules_0 rfl (lv_at hl 0 rfl) ?_
  refine xGet C hN hP 0 (j := 0) rfl rfl iX4_idleRules_X4 (by decide) kX4_idleRules_12 rfl rfl dX4_idleRules_1 ?_
  refine xGet C hN hP 12 (j := 0) rfl rfl iX4_idleRules_X3 (by decide) kX4_idleRules_52 rfl rfl dX4_idleRules_4 ?_
  refine xVro C hN (As := []) (rest := []) (q0 := 0) (c_X2_triples xl D kA (fun i => os (i + 1)) f (V 0) (TV V) hR hW (by omega)) (cwV 0 hts gX4_idleRules_X2_triples rfl rfl rfl (by decide +kernel) ⟨Nat.le_of_ble_eq_true rfl, Nat.le_of_ble_eq_true rfl⟩) (xSubL (wc := (rulW kA (fun i => os (i + 1)) f (nI (V 0)))) hP [13, 14, 15, 16, 17, 18, 19] rfl) rfl rfl rfl rfl hl.1 rfl (Nat.le_of_ble_eq_true rfl) dX4_idleRules_7 ⟨Nat.le_of_ble_eq_true rfl, Nat.le_of_ble_eq_true rfl⟩ ?_
  refine lv_istore_n (lv' := [(1, .int (nI (trpT (V 0) (TV V)))), (0, .ref (ox 0))]) hx hb dX4_idleRules_10 rfl hl (by decide) rfl (fun ls hl => ?_)
  refine lv_iconst (v := nI 0) hx hb dX4_idleRules_11 (by decide) ?_
  refine lv_istore_n (lv' := [(2, .int (nI 0)), (1, .int (nI (trpT (V 0) (TV V)))), (0, .ref (ox 0))]) hx hb dX4_idleRules_12 rfl hl (by decide) rfl (fun ls hl => ?_)
  refine lv_iconst (v := nI 0) hx hb dX4_idleRules_13 (by decide) ?_
  refine lv_istore_n (lv' := [(3, .int (nI 0)), (2, .int (nI 0)), (1, .int (nI (trpT (V 0) (TV V)))), (0, .ref (ox 0))]) hx hb dX4_idleRules_14 rfl hl (by decide) rfl (fun ls hl => ?_)
  have L15 : ∀ (fuel : Nat), ∀ (i : Nat) (v : Nat) (tf1 : Nat → Nat → Int32) (tz1 : Int32) (hmu : V 0 - i < fuel) (hi : i ≤ V 0) (hv : v = cntN i (idB V)) (H : Heap) (locs : List Loc) (_ : va_P D vwCl ((clsN kA ox os ob ot sl hs h tf1 tz1 f g (V 0) (V 1) (V 2) ln kt) ++ tl) H) (_ : va_D A ((clsN kA ox os ob ot sl hs h tf1 tz1 f g (V 0) (V 1) (V 2) ln kt) ++ tl)) (_ : va_S A xs.heap H locs) (ls : Array Slot) (_ : lv_has ls 4 [(3, .int (nI i)), (2, .int (nI v)), (1, .int (nI (trpT (V 0) (TV V)))), (0, .ref (ox 0))]), W xp xl xe (headSpec wsX4_idleRules { frames := 6, cells := 0, slots := 0, locals := 134 }).room xs xm ([.ref (ox 0)] : List Value).toArray xbe xme xc H locs 0 0 (MQ xbe (xQi D A (fun r u => r = nI (cntN (V 0) (idB V)) ∧ ∃ (tf2 : Nat → Nat → Int32) (tz2 : Int32), u = clsW kA ox os ob ot sl hs h tf2 tz2 f g V ln kt ++ tl)) ([.ref (ox 0)] : List Value).toArray xs 0 0 A) (F0 xm 15 ls []) := by
    intro fuel
    induction fuel with
    | zero => intro i v tf1 tz1 hmu; exact absurd hmu (Nat.not_lt_zero _)
    | succ fuel ih15 =>
      intro i v tf1 tz1 hmu hi hv H locs hP hD hS ls hl
      refine lv_iload_n hx hb dX4_idleRules_15 rfl (lv_at hl 0 rfl) ?_
      refine lv_aload_n hx hb dX4_idleRules_16 rfl (lv_at hl 3 rfl) ?_
      refine xGet C hN hP 0 (j := 0) rfl rfl iX4_idleRules_X4 (by decide) kX4_idleRules_12 rfl rfl dX4_idleRules_17 ?_
      refine xGet C hN hP 12 (j := 0) rfl rfl iX4_idleRules_X3 (by decide) kX4_idleRules_52 rfl rfl dX4_idleRules_20 ?_
      refine xGet C hN hP 13 (j := 6) rfl rfl iX4_idleRules_X2 (by decide) kX4_idleRules_55 rfl rfl dX4_idleRules_23 ?_
      refine xIcmpGe C (tgt := 47) (by omega) (by omega) dX4_idleRules_26 (by decide) (fun h_26 => ?_) (fun h_26 => ?_)
      · skip
        refine lv_iload_n hx hb dX4_idleRules_47 rfl (lv_at hl 1 rfl) ?_
        exact xRetI hx hb hret (v := nI v) (⟨by rw [hv, show i = V 0 by omega], tf1, tz1, rfl⟩) hP hD hS dX4_idleRules_48 hlocks
      · skip
        refine lv_aload_n hx hb dX4_idleRules_29 rfl (lv_at hl 3 rfl) ?_
        refine lv_iload_n hx hb dX4_idleRules_30 rfl (lv_at hl 0 rfl) ?_
        refine lv_iload_n hx hb dX4_idleRules_31 rfl (lv_at hl 2 rfl) ?_
        refine xWWi hS (va_runV (As := [.int (nI i), .int (nI (trpT (V 0) (TV V)))]) (rest := []) C (c_X4_isIdle xl D kA ox os ob ot sl hs h tf1 tz1 f g V ln kt tl hR hW hV i (trpT (V 0) (TV V)) (by omega) (by have := trp_le (n := V 0) (T := TV V); omega) A) (cwV 2 hts gX4_idleRules_X4_isIdle rfl rfl rfl (by decide +kernel) ⟨Nat.le_of_ble_eq_true rfl, Nat.le_of_ble_eq_true rfl⟩) (xPreVw (q0 := 0) hN hP hD (xAll hS hA) rfl rfl rfl) rfl rfl hl.1 rfl (lv_room (Nat.le_of_ble_eq_true rfl)) dX4_idleRules_32 ⟨Nat.le_of_ble_eq_true rfl, Nat.le_of_ble_eq_true rfl⟩) (fun r_32 u_32 H locs hq_32 hP hD hS => ?_)
        obtain ⟨rfl, tf_32, tz_32, rfl⟩ := hq_32
        have hP : va_P D vwCl ((clsN kA ox os ob ot sl hs h tf_32 tz_32 f g (V 0) (V 1) (V 2) ln kt) ++ tl) H := hP
        have hD : va_D A ((clsN kA ox os ob ot sl hs h tf_32 tz_32 f g (V 0) (V 1) (V 2) ln kt) ++ tl) := hD
        refine xTop (y := bI (idB V i)) (congrArg bI (idle_eq hW (by omega) (by omega)).symm) ?_
        refine xIfEqB C (tgt := 41) dX4_idleRules_35 (by decide) (fun h_35 => ?_) (fun h_35 => ?_)
        · skip
          refine xIinc C (kx := 0) (d := 1) (lv' := [(3, .int (nI (i + 1))), (2, .int (nI v)), (1, .int (nI (trpT (V 0) (TV V)))), (0, .ref (ox 0))]) dX4_idleRules_41 hl rfl (by decide) (by decide) rfl (fun ls hl => ?_)
          refine lv_goto (tgt := 15) hx hb dX4_idleRules_44 (by decide) ?_
          have hP : va_P D vwCl ((clsN kA ox os ob ot sl hs h tf_32 tz_32 f g (V 0) (V 1) (V 2) ln kt) ++ tl) H := hP
          exact ih15 (i + 1) v tf_32 tz_32 (by omega) (by omega) (by rw [cntN_succ, hv, h_35]; rfl) _ _ hP hD hS _ (lv_sub hl [0, 1, 2, 3] rfl)
        · skip
          refine xIinc C (kx := 1) (d := 1) (lv' := [(2, .int (nI (v + 1))), (3, .int (nI i)), (1, .int (nI (trpT (V 0) (TV V)))), (0, .ref (ox 0))]) dX4_idleRules_38 hl rfl (by decide) (by decide) rfl (fun ls hl => ?_)
          refine xIinc C (kx := 1) (d := 1) (lv' := [(3, .int (nI (i + 1))), (2, .int (nI (v + 1))), (1, .int (nI (trpT (V 0) (TV V)))), (0, .ref (ox 0))]) dX4_idleRules_41 hl rfl (by decide) (by decide) rfl (fun ls hl => ?_)
          refine lv_goto (tgt := 15) hx hb dX4_idleRules_44 (by decide) ?_
          have hP : va_P D vwCl ((clsN kA ox os ob ot sl hs h tf_32 tz_32 f g (V 0) (V 1) (V 2) ln kt) ++ tl) H := hP
          exact ih15 (i + 1) (v + 1) tf_32 tz_32 (by omega) (by omega) (by rw [cntN_succ, hv, h_35]; rfl) _ _ hP hD hS _ (lv_sub hl [0, 1, 2, 3] rfl)
  exact L15 _ 0 0 tf tz (Nat.lt_succ_self _) (by omega) rfl _ _ hP hD hS _ (lv_sub hl [0, 1, 2, 3] rfl)

set_option maxHeartbeats 8000000 in
set_option maxRecDepth 100000 in
theorem c_X4_deedsAllowed (xl : Launch) (D : va_G) (kA : Nat → ClassId) (ox os ob ot : Nat → Nat) (sl hs : Nat → Option Nat) (h : Nat → Int32) (tf : Nat → Nat → Int32) (tz : Int32) (f g : Nat → Nat → Int32) (V : Nat → Nat) (ln kt : Nat) (hR : relT f (V 0) (TV V)) (hW : WfT (V 0) (TV V)) (hV : V 0 ≤ 24) (c rk : Nat) (hc : c < 5) (hrk : rk ≤ 9) : Met xl yX4_deedsAllowed wsX4_deedsAllowed { frames := 4, cells := 0, slots := 0, locals := 91 } (va_Pc [.ref (ox 0), .int (nI c), .int (nI rk)] (xPr D kA (clsN kA ox os ob ot sl hs h tf tz f g (V 0) (V 1) (V 2) ln kt))) (vp_Si (fun rr => rr = nI (maskN 6 (fun d => decide (lstT (V 0) (TV V) c d ≤ rk))))) 0 0 (fun _ => False) := by
  refine Met.ofW (cc := cX4_deedsAllowed) (maxL := 3) (ret := (some .int)) (by decide) rfl ?_
  intro xp xe xs xm args xbe xme xc s₁ B hml hv
  obtain ⟨rfl, hP, hN⟩ := hv
  have hret := B.returns
  have C : CallFix xp xm xc cX4_deedsAllowed 3 xs ([.ref (ox 0), .int (nI c), .int (nI rk)] : List Value).toArray wsX4_deedsAllowed RX4 := ⟨B.exec, B.bytes, hml, findClass_of_methodNamed B.named, atoms_spec (ws := wsX4_deedsAllowed) B.pre⟩
  have hlocks := B.notSynchronized
  obtain ⟨hx, hb, _, hown, hts⟩ := id C
  have hl := lv_entry ([.ref (ox 0), .int (nI c), .int (nI rk)]) (n := 3) (Nat.le_of_ble_eq_true rfl)
  rw [lg_entry_eq]
  generalize (lg_sl ([.ref (ox 0), .int (nI c), .int (nI rk)]) ++ List.replicate (3 - (lg_sl ([.ref (ox 0), .int (nI c), .int (nI rk)])).length) Slot.unset).toArray = ls at hl ⊢
  have hl : lv_has ls 3 [(0, .ref (ox 0)), (1, .int (nI c)), (2, .int (nI rk))] := hl
  refine lv_aload_n hx hb dX4_deedsAllowed_0 rfl (lv_at hl 0 rfl) ?_
  refine xGet C hN hP 0 (j := 0) rfl rfl iX4_deedsAllowed_X4 (by decide) kX4_deedsAllowed_12 rfl rfl dX4_deedsAllowed_1 ?_
  refine xGet C hN hP 12 (j := 0) rfl rfl iX4_deedsAllowed_X3 (by decide) kX4_deedsAllowed_52 rfl rfl dX4_deedsAllowed_4 ?_
  refine lv_iload_n hx hb dX4_deedsAllowed_7 rfl (lv_at hl 2 rfl) ?_
  refine xVro C hN (As := [.int (nI rk)]) (rest := []) (q0 := 0) (c_X2_allowedPairs xl D kA (fun i => os (i + 1)) f (V 0) (TV V) hR hW (by omega) rk hrk) (cwV 1 hts gX4_deedsAllowed_X2_allowedPairs rfl rfl rfl (by decide +kernel) ⟨Nat.le_of_ble_eq_true rfl, Nat.le_of_ble_eq_true rfl⟩) (hP.sub (ws' := (rulW kA (fun i => os (i + 1)) f (nI (V 0)))) [13, 14, 15, 16, 17, 18, 19] rfl) rfl rfl rfl rfl hl.1 rfl (Nat.le_of_ble_eq_true rfl) dX4_deedsAllowed_8 ⟨Nat.le_of_ble_eq_true rfl, Nat.le_of_ble_eq_true rfl⟩ ?_
  refine lv_iload_n hx hb dX4_deedsAllowed_11 rfl (lv_at hl 1 rfl) ?_
  refine lv_bipush (v := nI 6) hx hb dX4_deedsAllowed_12 (by decide) ?_
  refine xImul C dX4_deedsAllowed_14 ?_
  refine lv_ishr hx hb dX4_deedsAllowed_15 ?_
  refine lv_bipush (v := nI 63) hx hb dX4_deedsAllowed_16 (by decide) ?_
  refine lv_iand hx hb dX4_deedsAllowed_18 ?_
  refine xTop (y := nI (maskN 6 (fun d => decide (lstT (V 0) (TV V) c d ≤ rk)))) (deeds_eq hc) ?_
  exact xRoI hx hb hret (v := nI (maskN 6 (fun d => decide (lstT (V 0) (TV V) c d ≤ rk)))) (rfl) dX4_deedsAllowed_19 hlocks

set_option maxHeartbeats 8000000 in
set_option maxRecDepth 100000 in
theorem c_X4_add (xl : Launch) (D : va_G) (kA : Nat → ClassId) (ox os ob ot : Nat → Nat) (sl hs : Nat → Option Nat) (h : Nat → Int32) (tf : Nat → Nat → Int32) (tz : Int32) (f g : Nat → Nat → Int32) (V : Nat → Nat) (ln kt : Nat) (tl : va_W) (P : Nat → Nat) (HH : Nat → Nat → Nat) (HB : Nat → Bool) (LL : Nat → Nat → Nat) (Q : Nat → Option Ent) (hI : InvS (V, ln, P, kt, HH, HB, LL)) (hr : relN V f g) (hpd : relP h ln P) (hQ : QR kA sl hs tl kt HH HB LL Q) (l k c d z : Int32) (A : Nat → Prop) : Met xl yX4_add wsX4_add { frames := 6, cells := 14, slots := 212, locals := 145 } (va_Pc [.ref (ox 0), .int l, .int k, .int c, .int d, .int z] (xPw D kA A ((clsN kA ox os ob ot sl hs h tf tz f g (V 0) (V 1) (V 2) ln kt) ++ tl))) (xQi D A (fun r u => r = (opAdd (V, ln, P, kt, HH, HB, LL) l k c d z).1 ∧ ClsR kA ox os ob ot (opAdd (V, ln, P, kt, HH, HB, LL) l k c d z).2 u)) 14 212 A := by
  refine Met.ofW (cc := cX4_add) (maxL := 6) (ret := (some .int)) (by decide) rfl ?_
  intro xp xe xs xm args xbe xme xc s₁ B hml hv
  obtain ⟨rfl, hP, hN, hD, hA⟩ := hv
  have hret := B.returns
  have C : CallFix xp xm xc cX4_add 6 xs ([.ref (ox 0), .int l, .int k, .int c, .int d, .int z] : List Value).toArray wsX4_add RX4 := ⟨B.exec, B.bytes, hml, findClass_of_methodNamed B.named, atoms_spec (ws := wsX4_add) B.pre⟩
  have hlocks := B.notSynchronized
  obtain ⟨hx, hb, _, hown, hts⟩ := id C
  have hS : va_S A xs.heap xs.heap [] := va_S.rf
  have hl := lv_entry ([.ref (ox 0), .int l, .int k, .int c, .int d, .int z]) (n := 6) (Nat.le_of_ble_eq_true rfl)
  rw [lg_entry_eq]
  generalize (lg_sl ([.ref (ox 0), .int l, .int k, .int c, .int d, .int z]) ++ List.replicate (6 - (lg_sl ([.ref (ox 0), .int l, .int k, .int c, .int d, .int z])).length) Slot.unset).toArray = ls at hl ⊢
  have hl : lv_has ls 6 [(0, .ref (ox 0)), (1, .int l), (2, .int k), (3, .int c), (4, .int d), (5, .int z)] := hl
  obtain ⟨⟨hV, hW, hM, hG⟩, hm, hwP, hk, hIH, hIL⟩ := hI
  have hR := hr.1
  refine lv_iload_n hx hb dX4_add_0 rfl (lv_at hl 1 rfl) ?_
  refine xSro C hN (As := [.int l]) (rest := []) (c_X4_isLayer xl D kA l) (va_cwS 1 hts gX4_add_X4_isLayer rfl rfl rfl (by decide +kernel) ⟨Nat.le_of_ble_eq_true rfl, Nat.le_of_ble_eq_true rfl⟩) (xSubL (wc := []) hP [] rfl) rfl hl.1 rfl (Nat.le_of_ble_eq_true rfl) dX4_add_1 ⟨Nat.le_of_ble_eq_true rfl, Nat.le_of_ble_eq_true rfl⟩ ?_
  refine xIfEqB C (tgt := 27) dX4_add_4 (by decide) (fun h_4 => ?_) (fun h_4 => ?_)
  · skip
    refine lv_iconst (v := (-1)) hx hb dX4_add_27 (by decide) ?_
    refine W.widen (k := 14) (n := 212) (Nat.le_of_ble_eq_true rfl) (Nat.le_of_ble_eq_true rfl) ?_
    exact xRetI hx hb hret (v := (-1)) (retC (S2 := (V, ln, P, kt, HH, HB, LL)) (by simp [opAdd, h_4]) ⟨sl, hs, h, tf, tz, f, g, tl, Q, rfl, hr, hpd, hQ⟩) hP hD hS dX4_add_28 hlocks
  · skip
    refine lv_iload_n hx hb dX4_add_7 rfl (lv_at hl 3 rfl) ?_
    refine lv_iconst (v := nI 0) hx hb dX4_add_8 (by decide) ?_
    refine lv_iconst (v := nI 5) hx hb dX4_add_9 (by decide) ?_
    refine xSro C hN (As := [.int c, .int (nI 0), .int (nI 5)]) (rest := []) (c_X4_isBetween xl D kA c (nI 0) (nI 5)) (va_cwS 3 hts gX4_add_X4_isBetween rfl rfl rfl (by decide +kernel) ⟨Nat.le_of_ble_eq_true rfl, Nat.le_of_ble_eq_true rfl⟩) (xSubL (wc := []) hP [] rfl) rfl hl.1 rfl (Nat.le_of_ble_eq_true rfl) dX4_add_10 ⟨Nat.le_of_ble_eq_true rfl, Nat.le_of_ble_eq_true rfl⟩ ?_
    refine xIfEqB C (tgt := 27) dX4_add_13 (by decide) (fun h_13 => ?_) (fun h_13 => ?_)
    · skip
      refine lv_iconst (v := (-1)) hx hb dX4_add_27 (by decide) ?_
      refine W.widen (k := 14) (n := 212) (Nat.le_of_ble_eq_true rfl) (Nat.le_of_ble_eq_true rfl) ?_
      exact xRetI hx hb hret (v := (-1)) (retC (S2 := (V, ln, P, kt, HH, HB, LL)) (by simp [opAdd, h_4, h_13]) ⟨sl, hs, h, tf, tz, f, g, tl, Q, rfl, hr, hpd, hQ⟩) hP hD hS dX4_add_28 hlocks
    · skip
      refine lv_iload hx hb dX4_add_16 (lv_at hl 4 rfl) ?_
      refine lv_iconst (v := nI 0) hx hb dX4_add_18 (by decide) ?_
      refine lv_bipush (v := nI 6) hx hb dX4_add_19 (by decide) ?_
      refine xSro C hN (As := [.int d, .int (nI 0), .int (nI 6)]) (rest := []) (c_X4_isBetween xl D kA d (nI 0) (nI 6)) (va_cwS 3 hts gX4_add_X4_isBetween rfl rfl rfl (by decide +kernel) ⟨Nat.le_of_ble_eq_true rfl, Nat.le_of_ble_eq_true rfl⟩) (xSubL (wc := []) hP [] rfl) rfl hl.1 rfl (Nat.le_of_ble_eq_true rfl) dX4_add_21 ⟨Nat.le_of_ble_eq_true rfl, Nat.le_of_ble_eq_true rfl⟩ ?_
      refine xIfNeB C (tgt := 29) dX4_add_24 (by decide) (fun h_24 => ?_) (fun h_24 => ?_)
      · skip
        refine lv_iload_n hx hb dX4_add_29 rfl (lv_at hl 2 rfl) ?_
        refine lv_iconst (v := nI 0) hx hb dX4_add_30 (by decide) ?_
        refine lv_iconst (v := nI 2) hx hb dX4_add_31 (by decide) ?_
        refine xSro C hN (As := [.int k, .int (nI 0), .int (nI 2)]) (rest := []) (c_X4_isBetween xl D kA k (nI 0) (nI 2)) (va_cwS 3 hts gX4_add_X4_isBetween rfl rfl rfl (by decide +kernel) ⟨Nat.le_of_ble_eq_true rfl, Nat.le_of_ble_eq_true rfl⟩) (xSubL (wc := []) hP [] rfl) rfl hl.1 rfl (Nat.le_of_ble_eq_true rfl) dX4_add_32 ⟨Nat.le_of_ble_eq_true rfl, Nat.le_of_ble_eq_true rfl⟩ ?_
        refine xIfEqB C (tgt := 46) dX4_add_35 (by decide) (fun h_35 => ?_) (fun h_35 => ?_)
        · skip
          refine lv_bipush (v := (-2)) hx hb dX4_add_46 (by decide) ?_
          refine W.widen (k := 14) (n := 212) (Nat.le_of_ble_eq_true rfl) (Nat.le_of_ble_eq_true rfl) ?_
          exact xRetI hx hb hret (v := (-2)) (retC (S2 := (V, ln, P, kt, HH, HB, LL)) (by simp [opAdd, h_4, h_13, h_24, h_35]) ⟨sl, hs, h, tf, tz, f, g, tl, Q, rfl, hr, hpd, hQ⟩) hP hD hS dX4_add_48 hlocks
        · skip
          refine lv_iload hx hb dX4_add_38 (lv_at hl 5 rfl) ?_
          refine xSro C hN (As := [.int z]) (rest := []) (c_X4_isSeal xl D kA z) (va_cwS 1 hts gX4_add_X4_isSeal rfl rfl rfl (by decide +kernel) ⟨Nat.le_of_ble_eq_true rfl, Nat.le_of_ble_eq_true rfl⟩) (xSubL (wc := []) hP [] rfl) rfl hl.1 rfl (Nat.le_of_ble_eq_true rfl) dX4_add_40 ⟨Nat.le_of_ble_eq_true rfl, Nat.le_of_ble_eq_true rfl⟩ ?_
          refine xIfNeB C (tgt := 49) dX4_add_43 (by decide) (fun h_43 => ?_) (fun h_43 => ?_)
          · skip
            obtain ⟨l1, a_l1, b_l1, e_l1, t_l1⟩ := inR_ex h_4 (by decide) (by decide)
            rw [e_l1] at hl
            skip
            obtain ⟨k1, a_k1, b_k1, e_k1, t_k1⟩ := inR_ex h_35 (by decide) (by decide)
            rw [e_k1] at hl
            skip
            obtain ⟨c1, a_c1, b_c1, e_c1, t_c1⟩ := inR_ex h_13 (by decide) (by decide)
            rw [e_c1] at hl
            skip
            obtain ⟨d1, a_d1, b_d1, e_d1, t_d1⟩ := inR_ex h_24 (by decide) (by decide)
            rw [e_d1] at hl
            skip
            obtain ⟨z1, a_z1, b_z1, e_z1, t_z1⟩ := inR_ex h_43 (by decide) (by decide)
            rw [e_z1] at hl
            skip
            refine lv_iload_n hx hb dX4_add_49 rfl (lv_at hl 2 rfl) ?_
            refine xIfNe C (tgt := 60) (by omega) dX4_add_50 (by decide) (fun h_50 => ?_) (fun h_50 => ?_)
            · skip
              have g_50 : ¬ k1 = 0 := by omega
              skip
              refine lv_aload_n hx hb dX4_add_60 rfl (lv_at hl 0 rfl) ?_
              refine xGet C hN hP 0 (j := 0) rfl rfl iX4_add_X4 (by decide) kX4_add_12 rfl rfl dX4_add_61 ?_
              refine xGet C hN hP 12 (j := 0) rfl rfl iX4_add_X3 (by decide) kX4_add_52 rfl rfl dX4_add_64 ?_
              refine xGet C hN hP 13 (j := 6) rfl rfl iX4_add_X2 (by decide) kX4_add_55 rfl rfl dX4_add_67 ?_
              refine lv_bipush (v := nI 24) hx hb dX4_add_70 (by decide) ?_
              refine xIcmpLt C (tgt := 78) (by omega) (by decide) dX4_add_72 (by decide) (fun h_72 => ?_) (fun h_72 => ?_)
              · skip
                have g_72 : ¬ V 0 = 24 := by omega
                skip
                refine lv_aload_n hx hb dX4_add_78 rfl (lv_at hl 0 rfl) ?_
                refine xWWv hS (va_runV (As := []) (rest := []) C (c_X4_remember xl D kA ox os ob ot sl hs h tf tz f g V ln kt tl HH HB LL Q hr hQ hk A) (cwV 0 hts gX4_add_X4_remember rfl rfl rfl (by decide +kernel) ⟨Nat.le_of_ble_eq_true rfl, Nat.le_of_ble_eq_true rfl⟩) (xPreVw (q0 := 0) hN hP hD (xAll hS hA) rfl rfl rfl) rfl rfl hl.1 rfl (lv_room (Nat.le_of_ble_eq_true rfl)) dX4_add_79 ⟨Nat.le_of_ble_eq_true rfl, Nat.le_of_ble_eq_true rfl⟩) (fun u_79 H locs hq_79 hP hD hS => ?_)
                obtain ⟨hs2, tl2, Q2, rfl, hQ2⟩ := hq_79
                have hP : va_P D vwCl ((clsN kA ox os ob ot sl hs2 h tf tz f g (V 0) (V 1) (V 2) ln (pushN kt)) ++ tl2) H := hP
                have hD : va_D A ((clsN kA ox os ob ot sl hs2 h tf tz f g (V 0) (V 1) (V 2) ln (pushN kt)) ++ tl2) := hD
                refine lv_aload_n hx hb dX4_add_82 rfl (lv_at hl 0 rfl) ?_
                refine xGet C hN hP 0 (j := 0) rfl rfl iX4_add_X4 (by decide) kX4_add_12 rfl rfl dX4_add_83 ?_
                refine xGet C hN hP 12 (j := 0) rfl rfl iX4_add_X3 (by decide) kX4_add_52 rfl rfl dX4_add_86 ?_
                refine lv_iload_n hx hb dX4_add_89 rfl (lv_at hl 1 rfl) ?_
                refine lv_iload_n hx hb dX4_add_90 rfl (lv_at hl 2 rfl) ?_
                refine lv_iload_n hx hb dX4_add_91 rfl (lv_at hl 3 rfl) ?_
                refine lv_iload hx hb dX4_add_92 (lv_at hl 4 rfl) ?_
                refine lv_iload hx hb dX4_add_94 (lv_at hl 5 rfl) ?_
                refine xWv (L := (clsN kA ox os ob ot sl hs2 h tf tz f g (V 0) (V 1) (V 2) ln (pushN kt))) (tl := tl2) (wc := (rulW kA (fun i => os (i + 1)) f (nI (V 0)))) (wr := ([0, 1, 2, 3, 4, 5, 6, 7, 8, 9, 10, 11, 12, 20, 21, 22, 23, 24, 25].filterMap (fun i => ((clsN kA ox os ob ot sl hs2 h tf tz f g (V 0) (V 1) (V 2) ln (pushN kt)))[i]?))) hP hD hS hA [13, 14, 15, 16, 17, 18, 19] [0, 1, 2, 3, 4, 5, 6, 7, 8, 9, 10, 11, 12, 20, 21, 22, 23, 24, 25] rfl rfl (by decide) (by decide) (va_runV (As := [.int (nI l1), .int (nI k1), .int (nI c1), .int (nI d1), .int (nI z1)]) (rest := []) C (c_X2_append xl D kA (fun i => os (i + 1)) f (V 0) l1 k1 c1 d1 z1 (by omega) (by omega) (by omega) _) (cwV 5 hts gX4_add_X2_append rfl rfl rfl (by decide +kernel) ⟨Nat.le_of_ble_eq_true rfl, Nat.le_of_ble_eq_true rfl⟩) (xPreVw (q0 := 0) hN (xSubL (wc := (rulW kA (fun i => os (i + 1)) f (nI (V 0)))) (L := (clsN kA ox os ob ot sl hs2 h tf tz f g (V 0) (V 1) (V 2) ln (pushN kt))) (tl := tl2) hP [13, 14, 15, 16, 17, 18, 19] rfl) (xSubD (wc := (rulW kA (fun i => os (i + 1)) f (nI (V 0)))) (L := (clsN kA ox os ob ot sl hs2 h tf tz f g (V 0) (V 1) (V 2) ln (pushN kt))) (tl := tl2) hD [13, 14, 15, 16, 17, 18, 19] (by decide) rfl).self (fun _ h => Or.inr h) rfl rfl rfl) rfl rfl hl.1 rfl (lv_room (Nat.le_of_ble_eq_true rfl)) dX4_add_96 ⟨Nat.le_of_ble_eq_true rfl, Nat.le_of_ble_eq_true rfl⟩) (fun u_96 H locs hq_96 hP hD hS => ?_)
                subst hq_96
                have hD : va_D A ((clsN kA ox os ob ot sl hs2 h tf tz (appF f (V 0) l1 k1 c1 d1 z1) g (V 0 + 1) (V 1) (V 2) ln (pushN kt)) ++ tl2) := xPermD (tl := tl2) hD [0, 1, 2, 3, 4, 5, 6, 7, 8, 9, 10, 11, 12, 19, 20, 21, 22, 23, 24, 25, 13, 14, 15, 16, 17, 18] (by decide) rfl
                have hP : va_P D vwCl ((clsN kA ox os ob ot sl hs2 h tf tz (appF f (V 0) l1 k1 c1 d1 z1) g (V 0 + 1) (V 1) (V 2) ln (pushN kt)) ++ tl2) H := xPermP (tl := tl2) hP [0, 1, 2, 3, 4, 5, 6, 7, 8, 9, 10, 11, 12, 19, 20, 21, 22, 23, 24, 25, 13, 14, 15, 16, 17, 18] rfl
                refine lv_aload_n hx hb dX4_add_99 rfl (lv_at hl 0 rfl) ?_
                refine xGet C hN hP 0 (j := 0) rfl rfl iX4_add_X4 (by decide) kX4_add_12 rfl rfl dX4_add_100 ?_
                refine xGet C hN hP 12 (j := 0) rfl rfl iX4_add_X3 (by decide) kX4_add_52 rfl rfl dX4_add_103 ?_
                refine xGet C hN hP 13 (j := 6) rfl rfl iX4_add_X2 (by decide) kX4_add_55 rfl rfl dX4_add_106 ?_
                refine lv_iconst (v := nI 1) hx hb dX4_add_109 (by decide) ?_
                refine xIsub C (by omega) dX4_add_110 ?_
                refine xTop (y := nI (V 0)) (rfl) ?_
                exact xRetI hx hb hret (v := nI (V 0)) (retC (S2 := ((addV V l1 k1 c1 d1 z1), ln, P, (pushN kt), (pushH HH kt V), HB, LL)) (by simp [opAdd, h_4, h_13, h_24, h_35, h_43, t_l1, t_k1, t_c1, t_d1, t_z1, h_50, g_50, h_72, g_72]) ⟨sl, hs2, h, tf, tz, (appF f (V 0) l1 k1 c1 d1 z1), g, tl2, Q2, clsU rfl sz_add.1 sz_add.2, relN_add hr (by omega), hpd, hQ2⟩) hP hD hS dX4_add_111 hlocks
              · skip
                have g_72 : V 0 = 24 := by omega
                skip
                refine lv_bipush (v := (-4)) hx hb dX4_add_75 (by decide) ?_
                refine W.widen (k := 14) (n := 212) (Nat.le_of_ble_eq_true rfl) (Nat.le_of_ble_eq_true rfl) ?_
                exact xRetI hx hb hret (v := (-4)) (retC (S2 := (V, ln, P, kt, HH, HB, LL)) (by simp [opAdd, h_4, h_13, h_24, h_35, h_43, t_l1, t_k1, t_c1, t_d1, t_z1, h_50, g_50, h_72, g_72]) ⟨sl, hs, h, tf, tz, f, g, tl, Q, rfl, hr, hpd, hQ⟩) hP hD hS dX4_add_77 hlocks
            · skip
              refine lv_iload_n hx hb dX4_add_53 rfl (lv_at hl 1 rfl) ?_
              refine xIfEq C (tgt := 60) (by omega) dX4_add_54 (by decide) (fun h_54 => ?_) (fun h_54 => ?_)
              · skip
                refine lv_aload_n hx hb dX4_add_60 rfl (lv_at hl 0 rfl) ?_
                refine xGet C hN hP 0 (j := 0) rfl rfl iX4_add_X4 (by decide) kX4_add_12 rfl rfl dX4_add_61 ?_
                refine xGet C hN hP 12 (j := 0) rfl rfl iX4_add_X3 (by decide) kX4_add_52 rfl rfl dX4_add_64 ?_
                refine xGet C hN hP 13 (j := 6) rfl rfl iX4_add_X2 (by decide) kX4_add_55 rfl rfl dX4_add_67 ?_
                refine lv_bipush (v := nI 24) hx hb dX4_add_70 (by decide) ?_
                refine xIcmpLt C (tgt := 78) (by omega) (by decide) dX4_add_72 (by decide) (fun h_72 => ?_) (fun h_72 => ?_)
                · skip
                  have g_72 : ¬ V 0 = 24 := by omega
                  skip
                  refine lv_aload_n hx hb dX4_add_78 rfl (lv_at hl 0 rfl) ?_
                  refine xWWv hS (va_runV (As := []) (rest := []) C (c_X4_remember xl D kA ox os ob ot sl hs h tf tz f g V ln kt tl HH HB LL Q hr hQ hk A) (cwV 0 hts gX4_add_X4_remember rfl rfl rfl (by decide +kernel) ⟨Nat.le_of_ble_eq_true rfl, Nat.le_of_ble_eq_true rfl⟩) (xPreVw (q0 := 0) hN hP hD (xAll hS hA) rfl rfl rfl) rfl rfl hl.1 rfl (lv_room (Nat.le_of_ble_eq_true rfl)) dX4_add_79 ⟨Nat.le_of_ble_eq_true rfl, Nat.le_of_ble_eq_true rfl⟩) (fun u_79 H locs hq_79 hP hD hS => ?_)
                  obtain ⟨hs2, tl2, Q2, rfl, hQ2⟩ := hq_79
                  have hP : va_P D vwCl ((clsN kA ox os ob ot sl hs2 h tf tz f g (V 0) (V 1) (V 2) ln (pushN kt)) ++ tl2) H := hP
                  have hD : va_D A ((clsN kA ox os ob ot sl hs2 h tf tz f g (V 0) (V 1) (V 2) ln (pushN kt)) ++ tl2) := hD
                  refine lv_aload_n hx hb dX4_add_82 rfl (lv_at hl 0 rfl) ?_
                  refine xGet C hN hP 0 (j := 0) rfl rfl iX4_add_X4 (by decide) kX4_add_12 rfl rfl dX4_add_83 ?_
                  refine xGet C hN hP 12 (j := 0) rfl rfl iX4_add_X3 (by decide) kX4_add_52 rfl rfl dX4_add_86 ?_
                  refine lv_iload_n hx hb dX4_add_89 rfl (lv_at hl 1 rfl) ?_
                  refine lv_iload_n hx hb dX4_add_90 rfl (lv_at hl 2 rfl) ?_
                  refine lv_iload_n hx hb dX4_add_91 rfl (lv_at hl 3 rfl) ?_
                  refine lv_iload hx hb dX4_add_92 (lv_at hl 4 rfl) ?_
                  refine lv_iload hx hb dX4_add_94 (lv_at hl 5 rfl) ?_
                  refine xWv (L := (clsN kA ox os ob ot sl hs2 h tf tz f g (V 0) (V 1) (V 2) ln (pushN kt))) (tl := tl2) (wc := (rulW kA (fun i => os (i + 1)) f (nI (V 0)))) (wr := ([0, 1, 2, 3, 4, 5, 6, 7, 8, 9, 10, 11, 12, 20, 21, 22, 23, 24, 25].filterMap (fun i => ((clsN kA ox os ob ot sl hs2 h tf tz f g (V 0) (V 1) (V 2) ln (pushN kt)))[i]?))) hP hD hS hA [13, 14, 15, 16, 17, 18, 19] [0, 1, 2, 3, 4, 5, 6, 7, 8, 9, 10, 11, 12, 20, 21, 22, 23, 24, 25] rfl rfl (by decide) (by decide) (va_runV (As := [.int (nI l1), .int (nI k1), .int (nI c1), .int (nI d1), .int (nI z1)]) (rest := []) C (c_X2_append xl D kA (fun i => os (i + 1)) f (V 0) l1 k1 c1 d1 z1 (by omega) (by omega) (by omega) _) (cwV 5 hts gX4_add_X2_append rfl rfl rfl (by decide +kernel) ⟨Nat.le_of_ble_eq_true rfl, Nat.le_of_ble_eq_true rfl⟩) (xPreVw (q0 := 0) hN (xSubL (wc := (rulW kA (fun i => os (i + 1)) f (nI (V 0)))) (L := (clsN kA ox os ob ot sl hs2 h tf tz f g (V 0) (V 1) (V 2) ln (pushN kt))) (tl := tl2) hP [13, 14, 15, 16, 17, 18, 19] rfl) (xSubD (wc := (rulW kA (fun i => os (i + 1)) f (nI (V 0)))) (L := (clsN kA ox os ob ot sl hs2 h tf tz f g (V 0) (V 1) (V 2) ln (pushN kt))) (tl := tl2) hD [13, 14, 15, 16, 17, 18, 19] (by decide) rfl).self (fun _ h => Or.inr h) rfl rfl rfl) rfl rfl hl.1 rfl (lv_room (Nat.le_of_ble_eq_true rfl)) dX4_add_96 ⟨Nat.le_of_ble_eq_true rfl, Nat.le_of_ble_eq_true rfl⟩) (fun u_96 H locs hq_96 hP hD hS => ?_)
                  subst hq_96
                  have hD : va_D A ((clsN kA ox os ob ot sl hs2 h tf tz (appF f (V 0) l1 k1 c1 d1 z1) g (V 0 + 1) (V 1) (V 2) ln (pushN kt)) ++ tl2) := xPermD (tl := tl2) hD [0, 1, 2, 3, 4, 5, 6, 7, 8, 9, 10, 11, 12, 19, 20, 21, 22, 23, 24, 25, 13, 14, 15, 16, 17, 18] (by decide) rfl
                  have hP : va_P D vwCl ((clsN kA ox os ob ot sl hs2 h tf tz (appF f (V 0) l1 k1 c1 d1 z1) g (V 0 + 1) (V 1) (V 2) ln (pushN kt)) ++ tl2) H := xPermP (tl := tl2) hP [0, 1, 2, 3, 4, 5, 6, 7, 8, 9, 10, 11, 12, 19, 20, 21, 22, 23, 24, 25, 13, 14, 15, 16, 17, 18] rfl
                  refine lv_aload_n hx hb dX4_add_99 rfl (lv_at hl 0 rfl) ?_
                  refine xGet C hN hP 0 (j := 0) rfl rfl iX4_add_X4 (by decide) kX4_add_12 rfl rfl dX4_add_100 ?_
                  refine xGet C hN hP 12 (j := 0) rfl rfl iX4_add_X3 (by decide) kX4_add_52 rfl rfl dX4_add_103 ?_
                  refine xGet C hN hP 13 (j := 6) rfl rfl iX4_add_X2 (by decide) kX4_add_55 rfl rfl dX4_add_106 ?_
                  refine lv_iconst (v := nI 1) hx hb dX4_add_109 (by decide) ?_
                  refine xIsub C (by omega) dX4_add_110 ?_
                  refine xTop (y := nI (V 0)) (rfl) ?_
                  exact xRetI hx hb hret (v := nI (V 0)) (retC (S2 := ((addV V l1 k1 c1 d1 z1), ln, P, (pushN kt), (pushH HH kt V), HB, LL)) (by simp [opAdd, h_4, h_13, h_24, h_35, h_43, t_l1, t_k1, t_c1, t_d1, t_z1, h_50, h_54, h_72, g_72]) ⟨sl, hs2, h, tf, tz, (appF f (V 0) l1 k1 c1 d1 z1), g, tl2, Q2, clsU rfl sz_add.1 sz_add.2, relN_add hr (by omega), hpd, hQ2⟩) hP hD hS dX4_add_111 hlocks
                · skip
                  have g_72 : V 0 = 24 := by omega
                  skip
                  refine lv_bipush (v := (-4)) hx hb dX4_add_75 (by decide) ?_
                  refine W.widen (k := 14) (n := 212) (Nat.le_of_ble_eq_true rfl) (Nat.le_of_ble_eq_true rfl) ?_
                  exact xRetI hx hb hret (v := (-4)) (retC (S2 := (V, ln, P, kt, HH, HB, LL)) (by simp [opAdd, h_4, h_13, h_24, h_35, h_43, t_l1, t_k1, t_c1, t_d1, t_z1, h_50, h_54, h_72, g_72]) ⟨sl, hs, h, tf, tz, f, g, tl, Q, rfl, hr, hpd, hQ⟩) hP hD hS dX4_add_77 hlocks
              · skip
                refine lv_bipush (v := (-5)) hx hb dX4_add_57 (by decide) ?_
                refine W.widen (k := 14) (n := 212) (Nat.le_of_ble_eq_true rfl) (Nat.le_of_ble_eq_true rfl) ?_
                exact xRetI hx hb hret (v := (-5)) (retC (S2 := (V, ln, P, kt, HH, HB, LL)) (by simp [opAdd, h_4, h_13, h_24, h_35, h_43, t_l1, t_k1, t_c1, t_d1, t_z1, h_50, h_54]) ⟨sl, hs, h, tf, tz, f, g, tl, Q, rfl, hr, hpd, hQ⟩) hP hD hS dX4_add_59 hlocks
          · skip
            refine lv_bipush (v := (-2)) hx hb dX4_add_46 (by decide) ?_
            refine W.widen (k := 14) (n := 212) (Nat.le_of_ble_eq_true rfl) (Nat.le_of_ble_eq_true rfl) ?_
            exact xRetI hx hb hret (v := (-2)) (retC (S2 := (V, ln, P, kt, HH, HB, LL)) (by simp [opAdd, h_4, h_13, h_24, h_35, h_43]) ⟨sl, hs, h, tf, tz, f, g, tl, Q, rfl, hr, hpd, hQ⟩) hP hD hS dX4_add_48 hlocks
      · skip
        refine lv_iconst (v := (-1)) hx hb dX4_add_27 (by decide) ?_
        refine W.widen (k := 14) (n := 212) (Nat.le_of_ble_eq_true rfl) (Nat.le_of_ble_eq_true rfl) ?_
        exact xRetI hx hb hret (v := (-1)) (retC (S2 := (V, ln, P, kt, HH, HB, LL)) (by simp [opAdd, h_4, h_13, h_24]) ⟨sl, hs, h, tf, tz, f, g, tl, Q, rfl, hr, hpd, hQ⟩) hP hD hS dX4_add_28 hlocks

set_option maxHeartbeats 8000000 in
set_option maxRecDepth 100000 in
theorem c_X4_strike (xl : Launch) (D : va_G) (kA : Nat → ClassId) (ox os ob ot : Nat → Nat) (sl hs : Nat → Option Nat) (h : Nat → Int32) (tf : Nat → Nat → Int32) (tz : Int32) (f g : Nat → Nat → Int32) (V : Nat → Nat) (ln kt : Nat) (tl : va_W) (P : Nat → Nat) (HH : Nat → Nat → Nat) (HB : Nat → Bool) (LL : Nat → Nat → Nat) (Q : Nat → Option Ent) (hI : InvS (V, ln, P, kt, HH, HB, LL)) (hr : relN V f g) (hpd : relP h ln P) (hQ : QR kA sl hs tl kt HH HB LL Q) (x : Int32) (A : Nat → Prop) : Met xl yX4_strike wsX4_strike { frames := 6, cells := 14, slots := 212, locals := 145 } (va_Pc [.ref (ox 0), .int x] (xPw D kA A ((clsN kA ox os ob ot sl hs h tf tz f g (V 0) (V 1) (V 2) ln kt) ++ tl))) (xQi D A (fun r u => r = (opStrike (V, ln, P, kt, HH, HB, LL) x).1 ∧ ClsR kA ox os ob ot (opStrike (V, ln, P, kt, HH, HB, LL) x).2 u)) 14 212 A := by
  refine Met.ofW (cc := cX4_strike) (maxL := 2) (ret := (some .int)) (by decide) rfl ?_
  intro xp xe xs xm args xbe xme xc s₁ B hml hv
  obtain ⟨rfl, hP, hN, hD, hA⟩ := hv
  have hret := B.returns
  have C : CallFix xp xm xc cX4_strike 2 xs ([.ref (ox 0), .int x] : List Value).toArray wsX4_strike RX4 := ⟨B.exec, B.bytes, hml, findClass_of_methodNamed B.named, atoms_spec (ws := wsX4_strike) B.pre⟩
  have hlocks := B.notSynchronized
  obtain ⟨hx, hb, _, hown, hts⟩ := id C
  have hS : va_S A xs.heap xs.heap [] := va_S.rf
  have hl := lv_entry ([.ref (ox 0), .int x]) (n := 2) (Nat.le_of_ble_eq_true rfl)
  rw [lg_entry_eq]
  generalize (lg_sl ([.ref (ox 0), .int x]) ++ List.replicate (2 - (lg_sl ([.ref (ox 0), .int x])).length) Slot.unset).toArray = ls at hl ⊢
  have hl : lv_has ls 2 [(0, .ref (ox 0)), (1, .int x)] := hl
  obtain ⟨⟨hV, hW, hM, hG⟩, hm, hwP, hk, hIH, hIL⟩ := hI
  have hR := hr.1
  refine lv_aload_n hx hb dX4_strike_0 rfl (lv_at hl 0 rfl) ?_
  refine xGet C hN hP 0 (j := 0) rfl rfl iX4_strike_X4 (by decide) kX4_strike_12 rfl rfl dX4_strike_1 ?_
  refine xGet C hN hP 12 (j := 0) rfl rfl iX4_strike_X3 (by decide) kX4_strike_52 rfl rfl dX4_strike_4 ?_
  refine lv_iload_n hx hb dX4_strike_7 rfl (lv_at hl 1 rfl) ?_
  refine xVro C hN (As := [.int x]) (rest := []) (q0 := 0) (c_X2_has xl D kA (fun i => os (i + 1)) f (V 0) x (by omega)) (cwV 1 hts gX4_strike_X2_has rfl rfl rfl (by decide +kernel) ⟨Nat.le_of_ble_eq_true rfl, Nat.le_of_ble_eq_true rfl⟩) (xSubL (wc := (rulW kA (fun i => os (i + 1)) f (nI (V 0)))) hP [13, 14, 15, 16, 17, 18, 19] rfl) rfl rfl rfl rfl hl.1 rfl (Nat.le_of_ble_eq_true rfl) dX4_strike_8 ⟨Nat.le_of_ble_eq_true rfl, Nat.le_of_ble_eq_true rfl⟩ ?_
  refine xIfNeB C (tgt := 16) dX4_strike_11 (by decide) (fun h_11 => ?_) (fun h_11 => ?_)
  · skip
    obtain ⟨i, a_i, e_i, t_i⟩ := hasB_ex h_11 (by omega)
    rw [e_i] at hl
    skip
    refine lv_aload_n hx hb dX4_strike_16 rfl (lv_at hl 0 rfl) ?_
    refine xWWv hS (va_runV (As := []) (rest := []) C (c_X4_remember xl D kA ox os ob ot sl hs h tf tz f g V ln kt tl HH HB LL Q hr hQ hk A) (cwV 0 hts gX4_strike_X4_remember rfl rfl rfl (by decide +kernel) ⟨Nat.le_of_ble_eq_true rfl, Nat.le_of_ble_eq_true rfl⟩) (xPreVw (q0 := 0) hN hP hD (xAll hS hA) rfl rfl rfl) rfl rfl hl.1 rfl (lv_room (Nat.le_of_ble_eq_true rfl)) dX4_strike_17 ⟨Nat.le_of_ble_eq_true rfl, Nat.le_of_ble_eq_true rfl⟩) (fun u_17 H locs hq_17 hP hD hS => ?_)
    obtain ⟨hs2, tl2, Q2, rfl, hQ2⟩ := hq_17
    have hP : va_P D vwCl ((clsN kA ox os ob ot sl hs2 h tf tz f g (V 0) (V 1) (V 2) ln (pushN kt)) ++ tl2) H := hP
    have hD : va_D A ((clsN kA ox os ob ot sl hs2 h tf tz f g (V 0) (V 1) (V 2) ln (pushN kt)) ++ tl2) := hD
    refine lv_aload_n hx hb dX4_strike_20 rfl (lv_at hl 0 rfl) ?_
    refine xGet C hN hP 0 (j := 0) rfl rfl iX4_strike_X4 (by decide) kX4_strike_12 rfl rfl dX4_strike_21 ?_
    refine xGet C hN hP 12 (j := 0) rfl rfl iX4_strike_X3 (by decide) kX4_strike_52 rfl rfl dX4_strike_24 ?_
    refine lv_iload_n hx hb dX4_strike_27 rfl (lv_at hl 1 rfl) ?_
    refine xWv (L := (clsN kA ox os ob ot sl hs2 h tf tz f g (V 0) (V 1) (V 2) ln (pushN kt))) (tl := tl2) (wc := (rulW kA (fun i => os (i + 1)) f (nI (V 0)))) (wr := ([0, 1, 2, 3, 4, 5, 6, 7, 8, 9, 10, 11, 12, 20, 21, 22, 23, 24, 25].filterMap (fun i => ((clsN kA ox os ob ot sl hs2 h tf tz f g (V 0) (V 1) (V 2) ln (pushN kt)))[i]?))) hP hD hS hA [13, 14, 15, 16, 17, 18, 19] [0, 1, 2, 3, 4, 5, 6, 7, 8, 9, 10, 11, 12, 20, 21, 22, 23, 24, 25] rfl rfl (by decide) (by decide) (va_runV (As := [.int (nI i)]) (rest := []) C (c_X2_remove xl D kA (fun i => os (i + 1)) f (V 0) i (by omega) (by omega) _) (cwV 1 hts gX4_strike_X2_remove rfl rfl rfl (by decide +kernel) ⟨Nat.le_of_ble_eq_true rfl, Nat.le_of_ble_eq_true rfl⟩) (xPreVw (q0 := 0) hN (xSubL (wc := (rulW kA (fun i => os (i + 1)) f (nI (V 0)))) (L := (clsN kA ox os ob ot sl hs2 h tf tz f g (V 0) (V 1) (V 2) ln (pushN kt))) (tl := tl2) hP [13, 14, 15, 16, 17, 18, 19] rfl) (xSubD (wc := (rulW kA (fun i => os (i + 1)) f (nI (V 0)))) (L := (clsN kA ox os ob ot sl hs2 h tf tz f g (V 0) (V 1) (V 2) ln (pushN kt))) (tl := tl2) hD [13, 14, 15, 16, 17, 18, 19] (by decide) rfl).self (fun _ h => Or.inr h) rfl rfl rfl) rfl rfl hl.1 rfl (lv_room (Nat.le_of_ble_eq_true rfl)) dX4_strike_28 ⟨Nat.le_of_ble_eq_true rfl, Nat.le_of_ble_eq_true rfl⟩) (fun u_28 H locs hq_28 hP hD hS => ?_)
    subst hq_28
    have hD : va_D A ((clsN kA ox os ob ot sl hs2 h tf tz (delF f i) g (V 0 - 1) (V 1) (V 2) ln (pushN kt)) ++ tl2) := xPermD (tl := tl2) hD [0, 1, 2, 3, 4, 5, 6, 7, 8, 9, 10, 11, 12, 19, 20, 21, 22, 23, 24, 25, 13, 14, 15, 16, 17, 18] (by decide) rfl
    have hP : va_P D vwCl ((clsN kA ox os ob ot sl hs2 h tf tz (delF f i) g (V 0 - 1) (V 1) (V 2) ln (pushN kt)) ++ tl2) H := xPermP (tl := tl2) hP [0, 1, 2, 3, 4, 5, 6, 7, 8, 9, 10, 11, 12, 19, 20, 21, 22, 23, 24, 25, 13, 14, 15, 16, 17, 18] rfl
    refine lv_aload_n hx hb dX4_strike_31 rfl (lv_at hl 0 rfl) ?_
    refine xGet C hN hP 0 (j := 0) rfl rfl iX4_strike_X4 (by decide) kX4_strike_12 rfl rfl dX4_strike_32 ?_
    refine xGet C hN hP 12 (j := 0) rfl rfl iX4_strike_X3 (by decide) kX4_strike_52 rfl rfl dX4_strike_35 ?_
    refine xGet C hN hP 13 (j := 6) rfl rfl iX4_strike_X2 (by decide) kX4_strike_55 rfl rfl dX4_strike_38 ?_
    exact xRetI hx hb hret (v := nI (V 0 - 1)) (retC (S2 := ((strV V i), ln, P, (pushN kt), (pushH HH kt V), HB, LL)) (by simp [opStrike, h_11, t_i]) ⟨sl, hs2, h, tf, tz, (delF f i), g, tl2, Q2, clsU rfl sz_str.1 sz_str.2, relN_str hr (by omega) hV, hpd, hQ2⟩) hP hD hS dX4_strike_41 hlocks
  · skip
    refine lv_iconst (v := (-1)) hx hb dX4_strike_14 (by decide) ?_
    refine W.widen (k := 14) (n := 212) (Nat.le_of_ble_eq_true rfl) (Nat.le_of_ble_eq_true rfl) ?_
    exact xRetI hx hb hret (v := (-1)) (retC (S2 := (V, ln, P, kt, HH, HB, LL)) (by simp [opStrike, h_11]) ⟨sl, hs, h, tf, tz, f, g, tl, Q, rfl, hr, hpd, hQ⟩) hP hD hS dX4_strike_15 hlocks

set_option maxHeartbeats 8000000 in
set_option maxRecDepth 100000 in
theorem c_X4_seal (xl : Launch) (D : va_G) (kA : Nat → ClassId) (ox os ob ot : Nat → Nat) (sl hs : Nat → Option Nat) (h : Nat → Int32) (tf : Nat → Nat → Int32) (tz : Int32) (f g : Nat → Nat → Int32) (V : Nat → Nat) (ln kt : Nat) (tl : va_W) (P : Nat → Nat) (HH : Nat → Nat → Nat) (HB : Nat → Bool) (LL : Nat → Nat → Nat) (Q : Nat → Option Ent) (hI : InvS (V, ln, P, kt, HH, HB, LL)) (hr : relN V f g) (hpd : relP h ln P) (hQ : QR kA sl hs tl kt HH HB LL Q) (x z : Int32) (A : Nat → Prop) : Met xl yX4_seal wsX4_seal { frames := 6, cells := 14, slots := 212, locals := 145 } (va_Pc [.ref (ox 0), .int x, .int z] (xPw D kA A ((clsN kA ox os ob ot sl hs h tf tz f g (V 0) (V 1) (V 2) ln kt) ++ tl))) (xQi D A (fun r u => r = (opSeal (V, ln, P, kt, HH, HB, LL) x z).1 ∧ ClsR kA ox os ob ot (opSeal (V, ln, P, kt, HH, HB, LL) x z).2 u)) 14 212 A := by
  refine Met.ofW (cc := cX4_seal) (maxL := 4) (ret := (some .int)) (by decide) rfl ?_
  intro xp xe xs xm args xbe xme xc s₁ B hml hv
  obtain ⟨rfl, hP, hN, hD, hA⟩ := hv
  have hret := B.returns
  have C : CallFix xp xm xc cX4_seal 4 xs ([.ref (ox 0), .int x, .int z] : List Value).toArray wsX4_seal RX4 := ⟨B.exec, B.bytes, hml, findClass_of_methodNamed B.named, atoms_spec (ws := wsX4_seal) B.pre⟩
  have hlocks := B.notSynchronized
  obtain ⟨hx, hb, _, hown, hts⟩ := id C
  have hS : va_S A xs.heap xs.heap [] := va_S.rf
  have hl := lv_entry ([.ref (ox 0), .int x, .int z]) (n := 4) (Nat.le_of_ble_eq_true rfl)
  rw [lg_entry_eq]
  generalize (lg_sl ([.ref (ox 0), .int x, .int z]) ++ List.replicate (4 - (lg_sl ([.ref (ox 0), .int x, .int z])).length) Slot.unset).toArray = ls at hl ⊢
  have hl : lv_has ls 4 [(0, .ref (ox 0)), (1, .int x), (2, .int z)] := hl
  obtain ⟨⟨hV, hW, hM, hG⟩, hm, hwP, hk, hIH, hIL⟩ := hI
  have hR := hr.1
  refine lv_aload_n hx hb dX4_seal_0 rfl (lv_at hl 0 rfl) ?_
  refine xGet C hN hP 0 (j := 0) rfl rfl iX4_seal_X4 (by decide) kX4_seal_12 rfl rfl dX4_seal_1 ?_
  refine xGet C hN hP 12 (j := 0) rfl rfl iX4_seal_X3 (by decide) kX4_seal_52 rfl rfl dX4_seal_4 ?_
  refine lv_iload_n hx hb dX4_seal_7 rfl (lv_at hl 1 rfl) ?_
  refine xVro C hN (As := [.int x]) (rest := []) (q0 := 0) (c_X2_has xl D kA (fun i => os (i + 1)) f (V 0) x (by omega)) (cwV 1 hts gX4_seal_X2_has rfl rfl rfl (by decide +kernel) ⟨Nat.le_of_ble_eq_true rfl, Nat.le_of_ble_eq_true rfl⟩) (xSubL (wc := (rulW kA (fun i => os (i + 1)) f (nI (V 0)))) hP [13, 14, 15, 16, 17, 18, 19] rfl) rfl rfl rfl rfl hl.1 rfl (Nat.le_of_ble_eq_true rfl) dX4_seal_8 ⟨Nat.le_of_ble_eq_true rfl, Nat.le_of_ble_eq_true rfl⟩ ?_
  refine xIfNeB C (tgt := 16) dX4_seal_11 (by decide) (fun h_11 => ?_) (fun h_11 => ?_)
  · skip
    obtain ⟨i, a_i, e_i, t_i⟩ := hasB_ex h_11 (by omega)
    rw [e_i] at hl
    skip
    refine lv_iload_n hx hb dX4_seal_16 rfl (lv_at hl 2 rfl) ?_
    refine xSro C hN (As := [.int z]) (rest := []) (c_X4_isSeal xl D kA z) (va_cwS 1 hts gX4_seal_X4_isSeal rfl rfl rfl (by decide +kernel) ⟨Nat.le_of_ble_eq_true rfl, Nat.le_of_ble_eq_true rfl⟩) (xSubL (wc := []) hP [] rfl) rfl hl.1 rfl (Nat.le_of_ble_eq_true rfl) dX4_seal_17 ⟨Nat.le_of_ble_eq_true rfl, Nat.le_of_ble_eq_true rfl⟩ ?_
    refine xIfNeB C (tgt := 26) dX4_seal_20 (by decide) (fun h_20 => ?_) (fun h_20 => ?_)
    · skip
      obtain ⟨z1, a_z1, b_z1, e_z1, t_z1⟩ := inR_ex h_20 (by decide) (by decide)
      rw [e_z1] at hl
      skip
      refine lv_aload_n hx hb dX4_seal_26 rfl (lv_at hl 0 rfl) ?_
      refine xWWv hS (va_runV (As := []) (rest := []) C (c_X4_remember xl D kA ox os ob ot sl hs h tf tz f g V ln kt tl HH HB LL Q hr hQ hk A) (cwV 0 hts gX4_seal_X4_remember rfl rfl rfl (by decide +kernel) ⟨Nat.le_of_ble_eq_true rfl, Nat.le_of_ble_eq_true rfl⟩) (xPreVw (q0 := 0) hN hP hD (xAll hS hA) rfl rfl rfl) rfl rfl hl.1 rfl (lv_room (Nat.le_of_ble_eq_true rfl)) dX4_seal_27 ⟨Nat.le_of_ble_eq_true rfl, Nat.le_of_ble_eq_true rfl⟩) (fun u_27 H locs hq_27 hP hD hS => ?_)
      obtain ⟨hs2, tl2, Q2, rfl, hQ2⟩ := hq_27
      have hP : va_P D vwCl ((clsN kA ox os ob ot sl hs2 h tf tz f g (V 0) (V 1) (V 2) ln (pushN kt)) ++ tl2) H := hP
      have hD : va_D A ((clsN kA ox os ob ot sl hs2 h tf tz f g (V 0) (V 1) (V 2) ln (pushN kt)) ++ tl2) := hD
      refine lv_aload_n hx hb dX4_seal_30 rfl (lv_at hl 0 rfl) ?_
      refine xGet C hN hP 0 (j := 0) rfl rfl iX4_seal_X4 (by decide) kX4_seal_12 rfl rfl dX4_seal_31 ?_
      refine xGet C hN hP 12 (j := 0) rfl rfl iX4_seal_X3 (by decide) kX4_seal_52 rfl rfl dX4_seal_34 ?_
      refine xGet C hN hP 13 (j := 4) rfl rfl iX4_seal_X2 (by decide) kX4_seal_72 rfl rfl dX4_seal_37 ?_
      refine lv_iload_n hx hb dX4_seal_40 rfl (lv_at hl 1 rfl) ?_
      refine xIald C hN hP 18 (j := i) (v := nI (V (9 + 5 * i + 4))) rfl (by omega) (by decide) ((hR i (by omega)).2.2.2.2.1) dX4_seal_41 ?_
      refine lv_istore_n (lv' := [(3, .int (nI (V (9 + 5 * i + 4)))), (0, .ref (ox 0)), (1, .int (nI i)), (2, .int (nI z1))]) hx hb dX4_seal_42 rfl hl (by decide) rfl (fun ls hl => ?_)
      refine lv_aload_n hx hb dX4_seal_43 rfl (lv_at hl 1 rfl) ?_
      refine xGet C hN hP 0 (j := 0) rfl rfl iX4_seal_X4 (by decide) kX4_seal_12 rfl rfl dX4_seal_44 ?_
      refine xGet C hN hP 12 (j := 0) rfl rfl iX4_seal_X3 (by decide) kX4_seal_52 rfl rfl dX4_seal_47 ?_
      refine xGet C hN hP 13 (j := 4) rfl rfl iX4_seal_X2 (by decide) kX4_seal_72 rfl rfl dX4_seal_50 ?_
      refine lv_iload_n hx hb dX4_seal_53 rfl (lv_at hl 2 rfl) ?_
      refine lv_iload_n hx hb dX4_seal_54 rfl (lv_at hl 3 rfl) ?_
      refine xIast C hN hP hD hS 18 (j := i) rfl (by omega) (by decide) dX4_seal_55 (fun H locs hP hD hS => ?_)
      have hP : va_P D vwCl ((clsN kA ox os ob ot sl hs2 h tf tz (setF f 4 (upd (f 4) (i) (nI z1))) g (V 0) (V 1) (V 2) ln (pushN kt)) ++ tl2) H := hP
      have hD : va_D A ((clsN kA ox os ob ot sl hs2 h tf tz (setF f 4 (upd (f 4) (i) (nI z1))) g (V 0) (V 1) (V 2) ln (pushN kt)) ++ tl2) := hD
      refine lv_iload_n hx hb dX4_seal_56 rfl (lv_at hl 0 rfl) ?_
      exact xRetI hx hb hret (v := nI (V (9 + 5 * i + 4))) (retC (S2 := ((updN V (9 + 5 * i + 4) z1), ln, P, (pushN kt), (pushH HH kt V), HB, LL)) (by simp [opSeal, h_11, t_i, h_20, t_z1]) ⟨sl, hs2, h, tf, tz, (setF f 4 (upd (f 4) (i) (nI z1))), g, tl2, Q2, clsU (sz_upd (by omega)).1 (sz_upd (by omega)).2.1 (sz_upd (by omega)).2.2, relN_seal hr (by omega) hV, hpd, hQ2⟩) hP hD hS dX4_seal_57 hlocks
    · skip
      refine lv_bipush (v := (-2)) hx hb dX4_seal_23 (by decide) ?_
      refine W.widen (k := 14) (n := 212) (Nat.le_of_ble_eq_true rfl) (Nat.le_of_ble_eq_true rfl) ?_
      exact xRetI hx hb hret (v := (-2)) (retC (S2 := (V, ln, P, kt, HH, HB, LL)) (by simp [opSeal, h_11, t_i, h_20]) ⟨sl, hs, h, tf, tz, f, g, tl, Q, rfl, hr, hpd, hQ⟩) hP hD hS dX4_seal_25 hlocks
  · skip
    refine lv_iconst (v := (-1)) hx hb dX4_seal_14 (by decide) ?_
    refine W.widen (k := 14) (n := 212) (Nat.le_of_ble_eq_true rfl) (Nat.le_of_ble_eq_true rfl) ?_
    exact xRetI hx hb hret (v := (-1)) (retC (S2 := (V, ln, P, kt, HH, HB, LL)) (by simp [opSeal, h_11]) ⟨sl, hs, h, tf, tz, f, g, tl, Q, rfl, hr, hpd, hQ⟩) hP hD hS dX4_seal_15 hlocks

set_option maxHeartbeats 8000000 in
set_option maxRecDepth 100000 in
theorem c_X4_move (xl : Launch) (D : va_G) (kA : Nat → ClassId) (ox os ob ot : Nat → Nat) (sl hs : Nat → Option Nat) (h : Nat → Int32) (tf : Nat → Nat → Int32) (tz : Int32) (f g : Nat → Nat → Int32) (V : Nat → Nat) (ln kt : Nat) (tl : va_W) (P : Nat → Nat) (HH : Nat → Nat → Nat) (HB : Nat → Bool) (LL : Nat → Nat → Nat) (Q : Nat → Option Ent) (hI : InvS (V, ln, P, kt, HH, HB, LL)) (hr : relN V f g) (hpd : relP h ln P) (hQ : QR kA sl hs tl kt HH HB LL Q) (x l : Int32) (A : Nat → Prop) : Met xl yX4_move wsX4_move { frames := 6, cells := 14, slots := 212, locals := 145 } (va_Pc [.ref (ox 0), .int x, .int l] (xPw D kA A ((clsN kA ox os ob ot sl hs h tf tz f g (V 0) (V 1) (V 2) ln kt) ++ tl))) (xQi D A (fun r u => r = (opMove (V, ln, P, kt, HH, HB, LL) x l).1 ∧ ClsR kA ox os ob ot (opMove (V, ln, P, kt, HH, HB, LL) x l).2 u)) 14 212 A := by
  refine Met.ofW (cc := cX4_move) (maxL := 4) (ret := (some .int)) (by decide) rfl ?_
  intro xp xe xs xm args xbe xme xc s₁ B hml hv
  obtain ⟨rfl, hP, hN, hD, hA⟩ := hv
  have hret := B.returns
  have C : CallFix xp xm xc cX4_move 4 xs ([.ref (ox 0), .int x, .int l] : List Value).toArray wsX4_move RX4 := ⟨B.exec, B.bytes, hml, findClass_of_methodNamed B.named, atoms_spec (ws := wsX4_move) B.pre⟩
  have hlocks := B.notSynchronized
  obtain ⟨hx, hb, _, hown, hts⟩ := id C
  have hS : va_S A xs.heap xs.heap [] := va_S.rf
  have hl := lv_entry ([.ref (ox 0), .int x, .int l]) (n := 4) (Nat.le_of_ble_eq_true rfl)
  rw [lg_entry_eq]
  generalize (lg_sl ([.ref (ox 0), .int x, .int l]) ++ List.replicate (4 - (lg_sl ([.ref (ox 0), .int x, .int l])).length) Slot.unset).toArray = ls at hl ⊢
  have hl : lv_has ls 4 [(0, .ref (ox 0)), (1, .int x), (2, .int l)] := hl
  obtain ⟨⟨hV, hW, hM, hG⟩, hm, hwP, hk, hIH, hIL⟩ := hI
  have hR := hr.1
  refine lv_aload_n hx hb dX4_move_0 rfl (lv_at hl 0 rfl) ?_
  refine xGet C hN hP 0 (j := 0) rfl rfl iX4_move_X4 (by decide) kX4_move_12 rfl rfl dX4_move_1 ?_
  refine xGet C hN hP 12 (j := 0) rfl rfl iX4_move_X3 (by decide) kX4_move_52 rfl rfl dX4_move_4 ?_
  refine lv_iload_n hx hb dX4_move_7 rfl (lv_at hl 1 rfl) ?_
  refine xVro C hN (As := [.int x]) (rest := []) (q0 := 0) (c_X2_has xl D kA (fun i => os (i + 1)) f (V 0) x (by omega)) (cwV 1 hts gX4_move_X2_has rfl rfl rfl (by decide +kernel) ⟨Nat.le_of_ble_eq_true rfl, Nat.le_of_ble_eq_true rfl⟩) (xSubL (wc := (rulW kA (fun i => os (i + 1)) f (nI (V 0)))) hP [13, 14, 15, 16, 17, 18, 19] rfl) rfl rfl rfl rfl hl.1 rfl (Nat.le_of_ble_eq_true rfl) dX4_move_8 ⟨Nat.le_of_ble_eq_true rfl, Nat.le_of_ble_eq_true rfl⟩ ?_
  refine xIfEqB C (tgt := 21) dX4_move_11 (by decide) (fun h_11 => ?_) (fun h_11 => ?_)
  · skip
    refine lv_iconst (v := (-1)) hx hb dX4_move_21 (by decide) ?_
    refine W.widen (k := 14) (n := 212) (Nat.le_of_ble_eq_true rfl) (Nat.le_of_ble_eq_true rfl) ?_
    exact xRetI hx hb hret (v := (-1)) (retC (S2 := (V, ln, P, kt, HH, HB, LL)) (by simp [opMove, h_11]) ⟨sl, hs, h, tf, tz, f, g, tl, Q, rfl, hr, hpd, hQ⟩) hP hD hS dX4_move_22 hlocks
  · skip
    refine lv_iload_n hx hb dX4_move_14 rfl (lv_at hl 2 rfl) ?_
    refine xSro C hN (As := [.int l]) (rest := []) (c_X4_isLayer xl D kA l) (va_cwS 1 hts gX4_move_X4_isLayer rfl rfl rfl (by decide +kernel) ⟨Nat.le_of_ble_eq_true rfl, Nat.le_of_ble_eq_true rfl⟩) (xSubL (wc := []) hP [] rfl) rfl hl.1 rfl (Nat.le_of_ble_eq_true rfl) dX4_move_15 ⟨Nat.le_of_ble_eq_true rfl, Nat.le_of_ble_eq_true rfl⟩ ?_
    refine xIfNeB C (tgt := 23) dX4_move_18 (by decide) (fun h_18 => ?_) (fun h_18 => ?_)
    · skip
      obtain ⟨i, a_i, e_i, t_i⟩ := hasB_ex h_11 (by omega)
      rw [e_i] at hl
      skip
      obtain ⟨l1, a_l1, b_l1, e_l1, t_l1⟩ := inR_ex h_18 (by decide) (by decide)
      rw [e_l1] at hl
      skip
      refine lv_aload_n hx hb dX4_move_23 rfl (lv_at hl 0 rfl) ?_
      refine xGet C hN hP 0 (j := 0) rfl rfl iX4_move_X4 (by decide) kX4_move_12 rfl rfl dX4_move_24 ?_
      refine xGet C hN hP 12 (j := 0) rfl rfl iX4_move_X3 (by decide) kX4_move_52 rfl rfl dX4_move_27 ?_
      refine xGet C hN hP 13 (j := 1) rfl rfl iX4_move_X2 (by decide) kX4_move_76 rfl rfl dX4_move_30 ?_
      refine lv_iload_n hx hb dX4_move_33 rfl (lv_at hl 1 rfl) ?_
      refine xIald C hN hP 15 (j := i) (v := nI (TV V i 1)) rfl (by omega) (by decide) ((hR i (by omega)).2.1) dX4_move_34 ?_
      refine xIfNe C (tgt := 45) (by have := hW i (by omega); omega) dX4_move_35 (by decide) (fun h_35 => ?_) (fun h_35 => ?_)
      · skip
        have g_35 : ¬ TV V i 1 = 0 := by omega
        skip
        refine lv_aload_n hx hb dX4_move_45 rfl (lv_at hl 0 rfl) ?_
        refine xWWv hS (va_runV (As := []) (rest := []) C (c_X4_remember xl D kA ox os ob ot sl hs h tf tz f g V ln kt tl HH HB LL Q hr hQ hk A) (cwV 0 hts gX4_move_X4_remember rfl rfl rfl (by decide +kernel) ⟨Nat.le_of_ble_eq_true rfl, Nat.le_of_ble_eq_true rfl⟩) (xPreVw (q0 := 0) hN hP hD (xAll hS hA) rfl rfl rfl) rfl rfl hl.1 rfl (lv_room (Nat.le_of_ble_eq_true rfl)) dX4_move_46 ⟨Nat.le_of_ble_eq_true rfl, Nat.le_of_ble_eq_true rfl⟩) (fun u_46 H locs hq_46 hP hD hS => ?_)
        obtain ⟨hs2, tl2, Q2, rfl, hQ2⟩ := hq_46
        have hP : va_P D vwCl ((clsN kA ox os ob ot sl hs2 h tf tz f g (V 0) (V 1) (V 2) ln (pushN kt)) ++ tl2) H := hP
        have hD : va_D A ((clsN kA ox os ob ot sl hs2 h tf tz f g (V 0) (V 1) (V 2) ln (pushN kt)) ++ tl2) := hD
        refine lv_aload_n hx hb dX4_move_49 rfl (lv_at hl 0 rfl) ?_
        refine xGet C hN hP 0 (j := 0) rfl rfl iX4_move_X4 (by decide) kX4_move_12 rfl rfl dX4_move_50 ?_
        refine xGet C hN hP 12 (j := 0) rfl rfl iX4_move_X3 (by decide) kX4_move_52 rfl rfl dX4_move_53 ?_
        refine xGet C hN hP 13 (j := 0) rfl rfl iX4_move_X2 (by decide) kX4_move_79 rfl rfl dX4_move_56 ?_
        refine lv_iload_n hx hb dX4_move_59 rfl (lv_at hl 1 rfl) ?_
        refine xIald C hN hP 14 (j := i) (v := nI (V (9 + 5 * i + 0))) rfl (by omega) (by decide) ((hR i (by omega)).1) dX4_move_60 ?_
        refine lv_istore_n (lv' := [(3, .int (nI (V (9 + 5 * i + 0)))), (0, .ref (ox 0)), (1, .int (nI i)), (2, .int (nI l1))]) hx hb dX4_move_61 rfl hl (by decide) rfl (fun ls hl => ?_)
        refine lv_aload_n hx hb dX4_move_62 rfl (lv_at hl 1 rfl) ?_
        refine xGet C hN hP 0 (j := 0) rfl rfl iX4_move_X4 (by decide) kX4_move_12 rfl rfl dX4_move_63 ?_
        refine xGet C hN hP 12 (j := 0) rfl rfl iX4_move_X3 (by decide) kX4_move_52 rfl rfl dX4_move_66 ?_
        refine xGet C hN hP 13 (j := 0) rfl rfl iX4_move_X2 (by decide) kX4_move_79 rfl rfl dX4_move_69 ?_
        refine lv_iload_n hx hb dX4_move_72 rfl (lv_at hl 2 rfl) ?_
        refine lv_iload_n hx hb dX4_move_73 rfl (lv_at hl 3 rfl) ?_
        refine xIast C hN hP hD hS 14 (j := i) rfl (by omega) (by decide) dX4_move_74 (fun H locs hP hD hS => ?_)
        have hP : va_P D vwCl ((clsN kA ox os ob ot sl hs2 h tf tz (setF f 0 (upd (f 0) (i) (nI l1))) g (V 0) (V 1) (V 2) ln (pushN kt)) ++ tl2) H := hP
        have hD : va_D A ((clsN kA ox os ob ot sl hs2 h tf tz (setF f 0 (upd (f 0) (i) (nI l1))) g (V 0) (V 1) (V 2) ln (pushN kt)) ++ tl2) := hD
        refine lv_iload_n hx hb dX4_move_75 rfl (lv_at hl 0 rfl) ?_
        exact xRetI hx hb hret (v := nI (V (9 + 5 * i + 0))) (retC (S2 := ((updN V (9 + 5 * i + 0) l1), ln, P, (pushN kt), (pushH HH kt V), HB, LL)) (by simp [opMove, h_11, h_18, t_i, t_l1, h_35, g_35]) ⟨sl, hs2, h, tf, tz, (setF f 0 (upd (f 0) (i) (nI l1))), g, tl2, Q2, clsU (sz_upd (by omega)).1 (sz_upd (by omega)).2.1 (sz_upd (by omega)).2.2, relN_move hr (by omega) hV, hpd, hQ2⟩) hP hD hS dX4_move_76 hlocks
      · skip
        refine lv_iload_n hx hb dX4_move_38 rfl (lv_at hl 2 rfl) ?_
        refine xIfEq C (tgt := 45) (by omega) dX4_move_39 (by decide) (fun h_39 => ?_) (fun h_39 => ?_)
        · skip
          have g_39 : ¬ 0 < l1 := by omega
          skip
          refine lv_aload_n hx hb dX4_move_45 rfl (lv_at hl 0 rfl) ?_
          refine xWWv hS (va_runV (As := []) (rest := []) C (c_X4_remember xl D kA ox os ob ot sl hs h tf tz f g V ln kt tl HH HB LL Q hr hQ hk A) (cwV 0 hts gX4_move_X4_remember rfl rfl rfl (by decide +kernel) ⟨Nat.le_of_ble_eq_true rfl, Nat.le_of_ble_eq_true rfl⟩) (xPreVw (q0 := 0) hN hP hD (xAll hS hA) rfl rfl rfl) rfl rfl hl.1 rfl (lv_room (Nat.le_of_ble_eq_true rfl)) dX4_move_46 ⟨Nat.le_of_ble_eq_true rfl, Nat.le_of_ble_eq_true rfl⟩) (fun u_46 H locs hq_46 hP hD hS => ?_)
          obtain ⟨hs2, tl2, Q2, rfl, hQ2⟩ := hq_46
          have hP : va_P D vwCl ((clsN kA ox os ob ot sl hs2 h tf tz f g (V 0) (V 1) (V 2) ln (pushN kt)) ++ tl2) H := hP
          have hD : va_D A ((clsN kA ox os ob ot sl hs2 h tf tz f g (V 0) (V 1) (V 2) ln (pushN kt)) ++ tl2) := hD
          refine lv_aload_n hx hb dX4_move_49 rfl (lv_at hl 0 rfl) ?_
          refine xGet C hN hP 0 (j := 0) rfl rfl iX4_move_X4 (by decide) kX4_move_12 rfl rfl dX4_move_50 ?_
          refine xGet C hN hP 12 (j := 0) rfl rfl iX4_move_X3 (by decide) kX4_move_52 rfl rfl dX4_move_53 ?_
          refine xGet C hN hP 13 (j := 0) rfl rfl iX4_move_X2 (by decide) kX4_move_79 rfl rfl dX4_move_56 ?_
          refine lv_iload_n hx hb dX4_move_59 rfl (lv_at hl 1 rfl) ?_
          refine xIald C hN hP 14 (j := i) (v := nI (V (9 + 5 * i + 0))) rfl (by omega) (by decide) ((hR i (by omega)).1) dX4_move_60 ?_
          refine lv_istore_n (lv' := [(3, .int (nI (V (9 + 5 * i + 0)))), (0, .ref (ox 0)), (1, .int (nI i)), (2, .int (nI l1))]) hx hb dX4_move_61 rfl hl (by decide) rfl (fun ls hl => ?_)
          refine lv_aload_n hx hb dX4_move_62 rfl (lv_at hl 1 rfl) ?_
          refine xGet C hN hP 0 (j := 0) rfl rfl iX4_move_X4 (by decide) kX4_move_12 rfl rfl dX4_move_63 ?_
          refine xGet C hN hP 12 (j := 0) rfl rfl iX4_move_X3 (by decide) kX4_move_52 rfl rfl dX4_move_66 ?_
          refine xGet C hN hP 13 (j := 0) rfl rfl iX4_move_X2 (by decide) kX4_move_79 rfl rfl dX4_move_69 ?_
          refine lv_iload_n hx hb dX4_move_72 rfl (lv_at hl 2 rfl) ?_
          refine lv_iload_n hx hb dX4_move_73 rfl (lv_at hl 3 rfl) ?_
          refine xIast C hN hP hD hS 14 (j := i) rfl (by omega) (by decide) dX4_move_74 (fun H locs hP hD hS => ?_)
          have hP : va_P D vwCl ((clsN kA ox os ob ot sl hs2 h tf tz (setF f 0 (upd (f 0) (i) (nI l1))) g (V 0) (V 1) (V 2) ln (pushN kt)) ++ tl2) H := hP
          have hD : va_D A ((clsN kA ox os ob ot sl hs2 h tf tz (setF f 0 (upd (f 0) (i) (nI l1))) g (V 0) (V 1) (V 2) ln (pushN kt)) ++ tl2) := hD
          refine lv_iload_n hx hb dX4_move_75 rfl (lv_at hl 0 rfl) ?_
          exact xRetI hx hb hret (v := nI (V (9 + 5 * i + 0))) (retC (S2 := ((updN V (9 + 5 * i + 0) l1), ln, P, (pushN kt), (pushH HH kt V), HB, LL)) (by simp [opMove, h_11, h_18, t_i, t_l1, h_35, h_39, g_39]) ⟨sl, hs2, h, tf, tz, (setF f 0 (upd (f 0) (i) (nI l1))), g, tl2, Q2, clsU (sz_upd (by omega)).1 (sz_upd (by omega)).2.1 (sz_upd (by omega)).2.2, relN_move hr (by omega) hV, hpd, hQ2⟩) hP hD hS dX4_move_76 hlocks
        · skip
          refine lv_bipush (v := (-5)) hx hb dX4_move_42 (by decide) ?_
          refine W.widen (k := 14) (n := 212) (Nat.le_of_ble_eq_true rfl) (Nat.le_of_ble_eq_true rfl) ?_
          exact xRetI hx hb hret (v := (-5)) (retC (S2 := (V, ln, P, kt, HH, HB, LL)) (by simp [opMove, h_11, h_18, t_i, t_l1, h_35, h_39]) ⟨sl, hs, h, tf, tz, f, g, tl, Q, rfl, hr, hpd, hQ⟩) hP hD hS dX4_move_44 hlocks
    · skip
      refine lv_iconst (v := (-1)) hx hb dX4_move_21 (by decide) ?_
      refine W.widen (k := 14) (n := 212) (Nat.le_of_ble_eq_true rfl) (Nat.le_of_ble_eq_true rfl) ?_
      exact xRetI hx hb hret (v := (-1)) (retC (S2 := (V, ln, P, kt, HH, HB, LL)) (by simp [opMove, h_11, h_18]) ⟨sl, hs, h, tf, tz, f, g, tl, Q, rfl, hr, hpd, hQ⟩) hP hD hS dX4_move_22 hlocks

set_option maxHeartbeats 8000000 in
set_option maxRecDepth 100000 in
theorem c_X4_join (xl : Launch) (D : va_G) (kA : Nat → ClassId) (ox os ob ot : Nat → Nat) (sl hs : Nat → Option Nat) (h : Nat → Int32) (tf : Nat → Nat → Int32) (tz : Int32) (f g : Nat → Nat → Int32) (V : Nat → Nat) (ln kt : Nat) (tl : va_W) (P : Nat → Nat) (HH : Nat → Nat → Nat) (HB : Nat → Bool) (LL : Nat → Nat → Nat) (Q : Nat → Option Ent) (hI : InvS (V, ln, P, kt, HH, HB, LL)) (hr : relN V f g) (hpd : relP h ln P) (hQ : QR kA sl hs tl kt HH HB LL Q) (c y : Int32) (A : Nat → Prop) : Met xl yX4_join wsX4_join { frames := 6, cells := 14, slots := 212, locals := 145 } (va_Pc [.ref (ox 0), .int c, .int y] (xPw D kA A ((clsN kA ox os ob ot sl hs h tf tz f g (V 0) (V 1) (V 2) ln kt) ++ tl))) (xQi D A (fun r u => r = (opJoin (V, ln, P, kt, HH, HB, LL) c y).1 ∧ ClsR kA ox os ob ot (opJoin (V, ln, P, kt, HH, HB, LL) c y).2 u)) 14 212 A := by
  refine Met.ofW (cc := cX4_join) (maxL := 3) (ret := (some .int)) (by decide) rfl ?_
  intro xp xe xs xm args xbe xme xc s₁ B hml hv
  obtain ⟨rfl, hP, hN, hD, hA⟩ := hv
  have hret := B.returns
  have C : CallFix xp xm xc cX4_join 3 xs ([.ref (ox 0), .int c, .int y] : List Value).toArray wsX4_join RX4 := ⟨B.exec, B.bytes, hml, findClass_of_methodNamed B.named, atoms_spec (ws := wsX4_join) B.pre⟩
  have hlocks := B.notSynchronized
  obtain ⟨hx, hb, _, hown, hts⟩ := id C
  have hS : va_S A xs.heap xs.heap [] := va_S.rf
  have hl := lv_entry ([.ref (ox 0), .int c, .int y]) (n := 3) (Nat.le_of_ble_eq_true rfl)
  rw [lg_entry_eq]
  generalize (lg_sl ([.ref (ox 0), .int c, .int y]) ++ List.replicate (3 - (lg_sl ([.ref (ox 0), .int c, .int y])).length) Slot.unset).toArray = ls at hl ⊢
  have hl : lv_has ls 3 [(0, .ref (ox 0)), (1, .int c), (2, .int y)] := hl
  obtain ⟨⟨hV, hW, hM, hG⟩, hm, hwP, hk, hIH, hIL⟩ := hI
  have hR := hr.1
  refine lv_iload_n hx hb dX4_join_0 rfl (lv_at hl 1 rfl) ?_
  refine xSro C hN (As := [.int c]) (rest := []) (c_X4_isCraft xl D kA c) (va_cwS 1 hts gX4_join_X4_isCraft rfl rfl rfl (by decide +kernel) ⟨Nat.le_of_ble_eq_true rfl, Nat.le_of_ble_eq_true rfl⟩) (xSubL (wc := []) hP [] rfl) rfl hl.1 rfl (Nat.le_of_ble_eq_true rfl) dX4_join_1 ⟨Nat.le_of_ble_eq_true rfl, Nat.le_of_ble_eq_true rfl⟩ ?_
  refine xIfNeB C (tgt := 9) dX4_join_4 (by decide) (fun h_4 => ?_) (fun h_4 => ?_)
  · skip
    refine lv_iload_n hx hb dX4_join_9 rfl (lv_at hl 2 rfl) ?_
    refine xSro C hN (As := [.int y]) (rest := []) (c_X4_isRank xl D kA y) (va_cwS 1 hts gX4_join_X4_isRank rfl rfl rfl (by decide +kernel) ⟨Nat.le_of_ble_eq_true rfl, Nat.le_of_ble_eq_true rfl⟩) (xSubL (wc := []) hP [] rfl) rfl hl.1 rfl (Nat.le_of_ble_eq_true rfl) dX4_join_10 ⟨Nat.le_of_ble_eq_true rfl, Nat.le_of_ble_eq_true rfl⟩ ?_
    refine xIfNeB C (tgt := 19) dX4_join_13 (by decide) (fun h_13 => ?_) (fun h_13 => ?_)
    · skip
      obtain ⟨c1, a_c1, b_c1, e_c1, t_c1⟩ := inR_ex h_4 (by decide) (by decide)
      rw [e_c1] at hl
      skip
      obtain ⟨r1, a_r1, b_r1, e_r1, t_r1⟩ := inR_ex h_13 (by decide) (by decide)
      rw [e_r1] at hl
      skip
      refine lv_aload_n hx hb dX4_join_19 rfl (lv_at hl 0 rfl) ?_
      refine xGet C hN hP 0 (j := 0) rfl rfl iX4_join_X4 (by decide) kX4_join_12 rfl rfl dX4_join_20 ?_
      refine xGet C hN hP 12 (j := 1) rfl rfl iX4_join_X3 (by decide) kX4_join_105 rfl rfl dX4_join_23 ?_
      refine xGet C hN hP 20 (j := 5) rfl rfl iX4_join_X0 (by decide) kX4_join_109 rfl rfl dX4_join_26 ?_
      refine lv_bipush (v := nI 10) hx hb dX4_join_29 (by decide) ?_
      refine xIcmpLt C (tgt := 37) (by omega) (by decide) dX4_join_31 (by decide) (fun h_31 => ?_) (fun h_31 => ?_)
      · skip
        have g_31 : ¬ V 1 = 10 := by omega
        skip
        refine lv_aload_n hx hb dX4_join_37 rfl (lv_at hl 0 rfl) ?_
        refine xWWv hS (va_runV (As := []) (rest := []) C (c_X4_remember xl D kA ox os ob ot sl hs h tf tz f g V ln kt tl HH HB LL Q hr hQ hk A) (cwV 0 hts gX4_join_X4_remember rfl rfl rfl (by decide +kernel) ⟨Nat.le_of_ble_eq_true rfl, Nat.le_of_ble_eq_true rfl⟩) (xPreVw (q0 := 0) hN hP hD (xAll hS hA) rfl rfl rfl) rfl rfl hl.1 rfl (lv_room (Nat.le_of_ble_eq_true rfl)) dX4_join_38 ⟨Nat.le_of_ble_eq_true rfl, Nat.le_of_ble_eq_true rfl⟩) (fun u_38 H locs hq_38 hP hD hS => ?_)
        obtain ⟨hs2, tl2, Q2, rfl, hQ2⟩ := hq_38
        have hP : va_P D vwCl ((clsN kA ox os ob ot sl hs2 h tf tz f g (V 0) (V 1) (V 2) ln (pushN kt)) ++ tl2) H := hP
        have hD : va_D A ((clsN kA ox os ob ot sl hs2 h tf tz f g (V 0) (V 1) (V 2) ln (pushN kt)) ++ tl2) := hD
        refine lv_aload_n hx hb dX4_join_41 rfl (lv_at hl 0 rfl) ?_
        refine xGet C hN hP 0 (j := 0) rfl rfl iX4_join_X4 (by decide) kX4_join_12 rfl rfl dX4_join_42 ?_
        refine xGet C hN hP 12 (j := 1) rfl rfl iX4_join_X3 (by decide) kX4_join_105 rfl rfl dX4_join_45 ?_
        refine lv_iload_n hx hb dX4_join_48 rfl (lv_at hl 1 rfl) ?_
        refine lv_iload_n hx hb dX4_join_49 rfl (lv_at hl 2 rfl) ?_
        refine xWv (L := (clsN kA ox os ob ot sl hs2 h tf tz f g (V 0) (V 1) (V 2) ln (pushN kt))) (tl := tl2) (wc := (gldW kA (fun i => os (i + 8)) g (nI (V 1)) (nI (V 2)))) (wr := ([0, 1, 2, 3, 4, 5, 6, 7, 8, 9, 10, 11, 12, 13, 14, 15, 16, 17, 18, 19].filterMap (fun i => ((clsN kA ox os ob ot sl hs2 h tf tz f g (V 0) (V 1) (V 2) ln (pushN kt)))[i]?))) hP hD hS hA [20, 21, 22, 23, 24, 25] [0, 1, 2, 3, 4, 5, 6, 7, 8, 9, 10, 11, 12, 13, 14, 15, 16, 17, 18, 19] rfl rfl (by decide) (by decide) (va_runV (As := [.int (nI c1), .int (nI r1)]) (rest := []) C (c_X0_append xl D kA (fun i => os (i + 8)) g (nI (V 2)) (V 1) c1 r1 (by omega) _) (cwV 2 hts gX4_join_X0_append rfl rfl rfl (by decide +kernel) ⟨Nat.le_of_ble_eq_true rfl, Nat.le_of_ble_eq_true rfl⟩) (xPreVw (q0 := 0) hN (xSubL (wc := (gldW kA (fun i => os (i + 8)) g (nI (V 1)) (nI (V 2)))) (L := (clsN kA ox os ob ot sl hs2 h tf tz f g (V 0) (V 1) (V 2) ln (pushN kt))) (tl := tl2) hP [20, 21, 22, 23, 24, 25] rfl) (xSubD (wc := (gldW kA (fun i => os (i + 8)) g (nI (V 1)) (nI (V 2)))) (L := (clsN kA ox os ob ot sl hs2 h tf tz f g (V 0) (V 1) (V 2) ln (pushN kt))) (tl := tl2) hD [20, 21, 22, 23, 24, 25] (by decide) rfl).self (fun _ h => Or.inr h) rfl rfl rfl) rfl rfl hl.1 rfl (lv_room (Nat.le_of_ble_eq_true rfl)) dX4_join_50 ⟨Nat.le_of_ble_eq_true rfl, Nat.le_of_ble_eq_true rfl⟩) (fun u_50 H locs hq_50 hP hD hS => ?_)
        subst hq_50
        have hD : va_D A ((clsN kA ox os ob ot sl hs2 h tf tz f (appG g (V 1) c1 r1) (V 0) (V 1 + 1) (V 2) ln (pushN kt)) ++ tl2) := xPermD (tl := tl2) hD [0, 1, 2, 3, 4, 5, 6, 7, 8, 9, 10, 11, 12, 13, 14, 15, 16, 17, 18, 19, 20, 21, 22, 23, 24, 25] (by decide) rfl
        have hP : va_P D vwCl ((clsN kA ox os ob ot sl hs2 h tf tz f (appG g (V 1) c1 r1) (V 0) (V 1 + 1) (V 2) ln (pushN kt)) ++ tl2) H := xPermP (tl := tl2) hP [0, 1, 2, 3, 4, 5, 6, 7, 8, 9, 10, 11, 12, 13, 14, 15, 16, 17, 18, 19, 20, 21, 22, 23, 24, 25] rfl
        refine lv_aload_n hx hb dX4_join_53 rfl (lv_at hl 0 rfl) ?_
        refine xGet C hN hP 0 (j := 0) rfl rfl iX4_join_X4 (by decide) kX4_join_12 rfl rfl dX4_join_54 ?_
        refine xGet C hN hP 12 (j := 1) rfl rfl iX4_join_X3 (by decide) kX4_join_105 rfl rfl dX4_join_57 ?_
        refine xGet C hN hP 20 (j := 5) rfl rfl iX4_join_X0 (by decide) kX4_join_109 rfl rfl dX4_join_60 ?_
        refine lv_iconst (v := nI 1) hx hb dX4_join_63 (by decide) ?_
        refine xIsub C (by omega) dX4_join_64 ?_
        refine xTop (y := nI (V 1)) (rfl) ?_
        exact xRetI hx hb hret (v := nI (V 1)) (retC (S2 := ((jnV V c1 r1), ln, P, (pushN kt), (pushH HH kt V), HB, LL)) (by simp [opJoin, h_4, h_13, t_c1, t_r1, h_31, g_31]) ⟨sl, hs2, h, tf, tz, f, (appG g (V 1) c1 r1), tl2, Q2, clsU sz_jn.1 sz_jn.2.1 sz_jn.2.2, relN_join hr hV (by omega), hpd, hQ2⟩) hP hD hS dX4_join_65 hlocks
      · skip
        have g_31 : V 1 = 10 := by omega
        skip
        refine lv_bipush (v := (-4)) hx hb dX4_join_34 (by decide) ?_
        refine W.widen (k := 14) (n := 212) (Nat.le_of_ble_eq_true rfl) (Nat.le_of_ble_eq_true rfl) ?_
        exact xRetI hx hb hret (v := (-4)) (retC (S2 := (V, ln, P, kt, HH, HB, LL)) (by simp [opJoin, h_4, h_13, t_c1, t_r1, h_31, g_31]) ⟨sl, hs, h, tf, tz, f, g, tl, Q, rfl, hr, hpd, hQ⟩) hP hD hS dX4_join_36 hlocks
    · skip
      refine lv_bipush (v := (-2)) hx hb dX4_join_16 (by decide) ?_
      refine W.widen (k := 14) (n := 212) (Nat.le_of_ble_eq_true rfl) (Nat.le_of_ble_eq_true rfl) ?_
      exact xRetI hx hb hret (v := (-2)) (retC (S2 := (V, ln, P, kt, HH, HB, LL)) (by simp [opJoin, h_4, h_13]) ⟨sl, hs, h, tf, tz, f, g, tl, Q, rfl, hr, hpd, hQ⟩) hP hD hS dX4_join_18 hlocks
  · skip
    refine lv_iconst (v := (-1)) hx hb dX4_join_7 (by decide) ?_
    refine W.widen (k := 14) (n := 212) (Nat.le_of_ble_eq_true rfl) (Nat.le_of_ble_eq_true rfl) ?_
    exact xRetI hx hb hret (v := (-1)) (retC (S2 := (V, ln, P, kt, HH, HB, LL)) (by simp [opJoin, h_4]) ⟨sl, hs, h, tf, tz, f, g, tl, Q, rfl, hr, hpd, hQ⟩) hP hD hS dX4_join_8 hlocks

set_option maxHeartbeats 8000000 in
set_option maxRecDepth 100000 in
theorem c_X4_leave (xl : Launch) (D : va_G) (kA : Nat → ClassId) (ox os ob ot : Nat → Nat) (sl hs : Nat → Option Nat) (h : Nat → Int32) (tf : Nat → Nat → Int32) (tz : Int32) (f g : Nat → Nat → Int32) (V : Nat → Nat) (ln kt : Nat) (tl : va_W) (P : Nat → Nat) (HH : Nat → Nat → Nat) (HB : Nat → Bool) (LL : Nat → Nat → Nat) (Q : Nat → Option Ent) (hI : InvS (V, ln, P, kt, HH, HB, LL)) (hr : relN V f g) (hpd : relP h ln P) (hQ : QR kA sl hs tl kt HH HB LL Q) (x : Int32) (A : Nat → Prop) : Met xl yX4_leave wsX4_leave { frames := 6, cells := 14, slots := 212, locals := 145 } (va_Pc [.ref (ox 0), .int x] (xPw D kA A ((clsN kA ox os ob ot sl hs h tf tz f g (V 0) (V 1) (V 2) ln kt) ++ tl))) (xQi D A (fun r u => r = (opLeave (V, ln, P, kt, HH, HB, LL) x).1 ∧ ClsR kA ox os ob ot (opLeave (V, ln, P, kt, HH, HB, LL) x).2 u)) 14 212 A := by
  refine Met.ofW (cc := cX4_leave) (maxL := 3) (ret := (some .int)) (by decide) rfl ?_
  intro xp xe xs xm args xbe xme xc s₁ B hml hv
  obtain ⟨rfl, hP, hN, hD, hA⟩ := hv
  have hret := B.returns
  have C : CallFix xp xm xc cX4_leave 3 xs ([.ref (ox 0), .int x] : List Value).toArray wsX4_leave RX4 := ⟨B.exec, B.bytes, hml, findClass_of_methodNamed B.named, atoms_spec (ws := wsX4_leave) B.pre⟩
  have hlocks := B.notSynchronized
  obtain ⟨hx, hb, _, hown, hts⟩ := id C
  have hS : va_S A xs.heap xs.heap [] := va_S.rf
  have hl := lv_entry ([.ref (ox 0), .int x]) (n := 3) (Nat.le_of_ble_eq_true rfl)
  rw [lg_entry_eq]
  generalize (lg_sl ([.ref (ox 0), .int x]) ++ List.replicate (3 - (lg_sl ([.ref (ox 0), .int x])).length) Slot.unset).toArray = ls at hl ⊢
  have hl : lv_has ls 3 [(0, .ref (ox 0)), (1, .int x)] := hl
  obtain ⟨⟨hV, hW, hM, hG⟩, hm, hwP, hk, hIH, hIL⟩ := hI
  have hR := hr.1
  refine lv_aload_n hx hb dX4_leave_0 rfl (lv_at hl 0 rfl) ?_
  refine xGet C hN hP 0 (j := 0) rfl rfl iX4_leave_X4 (by decide) kX4_leave_12 rfl rfl dX4_leave_1 ?_
  refine xGet C hN hP 12 (j := 1) rfl rfl iX4_leave_X3 (by decide) kX4_leave_105 rfl rfl dX4_leave_4 ?_
  refine lv_iload_n hx hb dX4_leave_7 rfl (lv_at hl 1 rfl) ?_
  refine xVro C hN (As := [.int x]) (rest := []) (q0 := 0) (c_X0_has xl D kA (fun i => os (i + 8)) g (nI (V 2)) (V 1) x (by omega)) (cwV 1 hts gX4_leave_X0_has rfl rfl rfl (by decide +kernel) ⟨Nat.le_of_ble_eq_true rfl, Nat.le_of_ble_eq_true rfl⟩) (xSubL (wc := (gldW kA (fun i => os (i + 8)) g (nI (V 1)) (nI (V 2)))) hP [20, 21, 22, 23, 24, 25] rfl) rfl rfl rfl rfl hl.1 rfl (Nat.le_of_ble_eq_true rfl) dX4_leave_8 ⟨Nat.le_of_ble_eq_true rfl, Nat.le_of_ble_eq_true rfl⟩ ?_
  refine xIfNeB C (tgt := 16) dX4_leave_11 (by decide) (fun h_11 => ?_) (fun h_11 => ?_)
  · skip
    obtain ⟨i, a_i, e_i, t_i⟩ := hasB_ex h_11 (by omega)
    rw [e_i] at hl
    skip
    refine lv_aload_n hx hb dX4_leave_16 rfl (lv_at hl 0 rfl) ?_
    refine xWWv hS (va_runV (As := []) (rest := []) C (c_X4_remember xl D kA ox os ob ot sl hs h tf tz f g V ln kt tl HH HB LL Q hr hQ hk A) (cwV 0 hts gX4_leave_X4_remember rfl rfl rfl (by decide +kernel) ⟨Nat.le_of_ble_eq_true rfl, Nat.le_of_ble_eq_true rfl⟩) (xPreVw (q0 := 0) hN hP hD (xAll hS hA) rfl rfl rfl) rfl rfl hl.1 rfl (lv_room (Nat.le_of_ble_eq_true rfl)) dX4_leave_17 ⟨Nat.le_of_ble_eq_true rfl, Nat.le_of_ble_eq_true rfl⟩) (fun u_17 H locs hq_17 hP hD hS => ?_)
    obtain ⟨hs2, tl2, Q2, rfl, hQ2⟩ := hq_17
    have hP : va_P D vwCl ((clsN kA ox os ob ot sl hs2 h tf tz f g (V 0) (V 1) (V 2) ln (pushN kt)) ++ tl2) H := hP
    have hD : va_D A ((clsN kA ox os ob ot sl hs2 h tf tz f g (V 0) (V 1) (V 2) ln (pushN kt)) ++ tl2) := hD
    refine lv_aload_n hx hb dX4_leave_20 rfl (lv_at hl 0 rfl) ?_
    refine xGet C hN hP 0 (j := 0) rfl rfl iX4_leave_X4 (by decide) kX4_leave_12 rfl rfl dX4_leave_21 ?_
    refine xGet C hN hP 12 (j := 1) rfl rfl iX4_leave_X3 (by decide) kX4_leave_105 rfl rfl dX4_leave_24 ?_
    refine xGet C hN hP 20 (j := 2) rfl rfl iX4_leave_X0 (by decide) kX4_leave_116 rfl rfl dX4_leave_27 ?_
    refine lv_iload_n hx hb dX4_leave_30 rfl (lv_at hl 1 rfl) ?_
    refine xIald C hN hP 23 (j := i) (v := nI (V (129 + 4 * i + 2))) rfl (by omega) (by decide) (hr.2.1 i (by omega) 2 (by decide)) dX4_leave_31 ?_
    refine lv_istore_n (lv' := [(2, .int (nI (V (129 + 4 * i + 2)))), (0, .ref (ox 0)), (1, .int (nI i))]) hx hb dX4_leave_32 rfl hl (by decide) rfl (fun ls hl => ?_)
    refine lv_aload_n hx hb dX4_leave_33 rfl (lv_at hl 1 rfl) ?_
    refine xGet C hN hP 0 (j := 0) rfl rfl iX4_leave_X4 (by decide) kX4_leave_12 rfl rfl dX4_leave_34 ?_
    refine xGet C hN hP 12 (j := 1) rfl rfl iX4_leave_X3 (by decide) kX4_leave_105 rfl rfl dX4_leave_37 ?_
    refine lv_iload_n hx hb dX4_leave_40 rfl (lv_at hl 2 rfl) ?_
    refine xWv (L := (clsN kA ox os ob ot sl hs2 h tf tz f g (V 0) (V 1) (V 2) ln (pushN kt))) (tl := tl2) (wc := (gldW kA (fun i => os (i + 8)) g (nI (V 1)) (nI (V 2)))) (wr := ([0, 1, 2, 3, 4, 5, 6, 7, 8, 9, 10, 11, 12, 13, 14, 15, 16, 17, 18, 19].filterMap (fun i => ((clsN kA ox os ob ot sl hs2 h tf tz f g (V 0) (V 1) (V 2) ln (pushN kt)))[i]?))) hP hD hS hA [20, 21, 22, 23, 24, 25] [0, 1, 2, 3, 4, 5, 6, 7, 8, 9, 10, 11, 12, 13, 14, 15, 16, 17, 18, 19] rfl rfl (by decide) (by decide) (va_runV (As := [.int (nI i)]) (rest := []) C (c_X0_remove xl D kA (fun i => os (i + 8)) g (nI (V 2)) (V 1) i (by omega) (by omega) _) (cwV 1 hts gX4_leave_X0_remove rfl rfl rfl (by decide +kernel) ⟨Nat.le_of_ble_eq_true rfl, Nat.le_of_ble_eq_true rfl⟩) (xPreVw (q0 := 0) hN (xSubL (wc := (gldW kA (fun i => os (i + 8)) g (nI (V 1)) (nI (V 2)))) (L := (clsN kA ox os ob ot sl hs2 h tf tz f g (V 0) (V 1) (V 2) ln (pushN kt))) (tl := tl2) hP [20, 21, 22, 23, 24, 25] rfl) (xSubD (wc := (gldW kA (fun i => os (i + 8)) g (nI (V 1)) (nI (V 2)))) (L := (clsN kA ox os ob ot sl hs2 h tf tz f g (V 0) (V 1) (V 2) ln (pushN kt))) (tl := tl2) hD [20, 21, 22, 23, 24, 25] (by decide) rfl).self (fun _ h => Or.inr h) rfl rfl rfl) rfl rfl hl.1 rfl (lv_room (Nat.le_of_ble_eq_true rfl)) dX4_leave_41 ⟨Nat.le_of_ble_eq_true rfl, Nat.le_of_ble_eq_true rfl⟩) (fun u_41 H locs hq_41 hP hD hS => ?_)
    subst hq_41
    have hD : va_D A ((clsN kA ox os ob ot sl hs2 h tf tz f (delG g i) (V 0) (V 1 - 1) (V 2) ln (pushN kt)) ++ tl2) := xPermD (tl := tl2) hD [0, 1, 2, 3, 4, 5, 6, 7, 8, 9, 10, 11, 12, 13, 14, 15, 16, 17, 18, 19, 20, 21, 22, 23, 24, 25] (by decide) rfl
    have hP : va_P D vwCl ((clsN kA ox os ob ot sl hs2 h tf tz f (delG g i) (V 0) (V 1 - 1) (V 2) ln (pushN kt)) ++ tl2) H := xPermP (tl := tl2) hP [0, 1, 2, 3, 4, 5, 6, 7, 8, 9, 10, 11, 12, 13, 14, 15, 16, 17, 18, 19, 20, 21, 22, 23, 24, 25] rfl
    refine lv_iload_n hx hb dX4_leave_44 rfl (lv_at hl 0 rfl) ?_
    exact xRetI hx hb hret (v := nI (V (129 + 4 * i + 2))) (retC (S2 := ((lvV V i), ln, P, (pushN kt), (pushH HH kt V), HB, LL)) (by simp [opLeave, h_11, t_i]) ⟨sl, hs2, h, tf, tz, f, (delG g i), tl2, Q2, clsU sz_lv.1 rfl sz_lv.2, relN_leave hr hV (by omega) hM, hpd, hQ2⟩) hP hD hS dX4_leave_45 hlocks
  · skip
    refine lv_iconst (v := (-1)) hx hb dX4_leave_14 (by decide) ?_
    refine W.widen (k := 14) (n := 212) (Nat.le_of_ble_eq_true rfl) (Nat.le_of_ble_eq_true rfl) ?_
    exact xRetI hx hb hret (v := (-1)) (retC (S2 := (V, ln, P, kt, HH, HB, LL)) (by simp [opLeave, h_11]) ⟨sl, hs, h, tf, tz, f, g, tl, Q, rfl, hr, hpd, hQ⟩) hP hD hS dX4_leave_15 hlocks

set_option maxHeartbeats 8000000 in
set_option maxRecDepth 100000 in
theorem c_X4_rank (xl : Launch) (D : va_G) (kA : Nat → ClassId) (ox os ob ot : Nat → Nat) (sl hs : Nat → Option Nat) (h : Nat → Int32) (tf : Nat → Nat → Int32) (tz : Int32) (f g : Nat → Nat → Int32) (V : Nat → Nat) (ln kt : Nat) (tl : va_W) (P : Nat → Nat) (HH : Nat → Nat → Nat) (HB : Nat → Bool) (LL : Nat → Nat → Nat) (Q : Nat → Option Ent) (hI : InvS (V, ln, P, kt, HH, HB, LL)) (hr : relN V f g) (hpd : relP h ln P) (hQ : QR kA sl hs tl kt HH HB LL Q) (x y : Int32) (A : Nat → Prop) : Met xl yX4_rank wsX4_rank { frames := 6, cells := 14, slots := 212, locals := 145 } (va_Pc [.ref (ox 0), .int x, .int y] (xPw D kA A ((clsN kA ox os ob ot sl hs h tf tz f g (V 0) (V 1) (V 2) ln kt) ++ tl))) (xQi D A (fun r u => r = (opRank (V, ln, P, kt, HH, HB, LL) x y).1 ∧ ClsR kA ox os ob ot (opRank (V, ln, P, kt, HH, HB, LL) x y).2 u)) 14 212 A := by
  refine Met.ofW (cc := cX4_rank) (maxL := 4) (ret := (some .int)) (by decide) rfl ?_
  intro xp xe xs xm args xbe xme xc s₁ B hml hv
  obtain ⟨rfl, hP, hN, hD, hA⟩ := hv
  have hret := B.returns
  have C : CallFix xp xm xc cX4_rank 4 xs ([.ref (ox 0), .int x, .int y] : List Value).toArray wsX4_rank RX4 := ⟨B.exec, B.bytes, hml, findClass_of_methodNamed B.named, atoms_spec (ws := wsX4_rank) B.pre⟩
  have hlocks := B.notSynchronized
  obtain ⟨hx, hb, _, hown, hts⟩ := id C
  have hS : va_S A xs.heap xs.heap [] := va_S.rf
  have hl := lv_entry ([.ref (ox 0), .int x, .int y]) (n := 4) (Nat.le_of_ble_eq_true rfl)
  rw [lg_entry_eq]
  generalize (lg_sl ([.ref (ox 0), .int x, .int y]) ++ List.replicate (4 - (lg_sl ([.ref (ox 0), .int x, .int y])).length) Slot.unset).toArray = ls at hl ⊢
  have hl : lv_has ls 4 [(0, .ref (ox 0)), (1, .int x), (2, .int y)] := hl
  obtain ⟨⟨hV, hW, hM, hG⟩, hm, hwP, hk, hIH, hIL⟩ := hI
  have hR := hr.1
  refine lv_aload_n hx hb dX4_rank_0 rfl (lv_at hl 0 rfl) ?_
  refine xGet C hN hP 0 (j := 0) rfl rfl iX4_rank_X4 (by decide) kX4_rank_12 rfl rfl dX4_rank_1 ?_
  refine xGet C hN hP 12 (j := 1) rfl rfl iX4_rank_X3 (by decide) kX4_rank_105 rfl rfl dX4_rank_4 ?_
  refine lv_iload_n hx hb dX4_rank_7 rfl (lv_at hl 1 rfl) ?_
  refine xVro C hN (As := [.int x]) (rest := []) (q0 := 0) (c_X0_has xl D kA (fun i => os (i + 8)) g (nI (V 2)) (V 1) x (by omega)) (cwV 1 hts gX4_rank_X0_has rfl rfl rfl (by decide +kernel) ⟨Nat.le_of_ble_eq_true rfl, Nat.le_of_ble_eq_true rfl⟩) (xSubL (wc := (gldW kA (fun i => os (i + 8)) g (nI (V 1)) (nI (V 2)))) hP [20, 21, 22, 23, 24, 25] rfl) rfl rfl rfl rfl hl.1 rfl (Nat.le_of_ble_eq_true rfl) dX4_rank_8 ⟨Nat.le_of_ble_eq_true rfl, Nat.le_of_ble_eq_true rfl⟩ ?_
  refine xIfNeB C (tgt := 16) dX4_rank_11 (by decide) (fun h_11 => ?_) (fun h_11 => ?_)
  · skip
    obtain ⟨i, a_i, e_i, t_i⟩ := hasB_ex h_11 (by omega)
    rw [e_i] at hl
    skip
    refine lv_iload_n hx hb dX4_rank_16 rfl (lv_at hl 2 rfl) ?_
    refine xSro C hN (As := [.int y]) (rest := []) (c_X4_isRank xl D kA y) (va_cwS 1 hts gX4_rank_X4_isRank rfl rfl rfl (by decide +kernel) ⟨Nat.le_of_ble_eq_true rfl, Nat.le_of_ble_eq_true rfl⟩) (xSubL (wc := []) hP [] rfl) rfl hl.1 rfl (Nat.le_of_ble_eq_true rfl) dX4_rank_17 ⟨Nat.le_of_ble_eq_true rfl, Nat.le_of_ble_eq_true rfl⟩ ?_
    refine xIfNeB C (tgt := 26) dX4_rank_20 (by decide) (fun h_20 => ?_) (fun h_20 => ?_)
    · skip
      obtain ⟨r1, a_r1, b_r1, e_r1, t_r1⟩ := inR_ex h_20 (by decide) (by decide)
      rw [e_r1] at hl
      skip
      refine lv_aload_n hx hb dX4_rank_26 rfl (lv_at hl 0 rfl) ?_
      refine xWWv hS (va_runV (As := []) (rest := []) C (c_X4_remember xl D kA ox os ob ot sl hs h tf tz f g V ln kt tl HH HB LL Q hr hQ hk A) (cwV 0 hts gX4_rank_X4_remember rfl rfl rfl (by decide +kernel) ⟨Nat.le_of_ble_eq_true rfl, Nat.le_of_ble_eq_true rfl⟩) (xPreVw (q0 := 0) hN hP hD (xAll hS hA) rfl rfl rfl) rfl rfl hl.1 rfl (lv_room (Nat.le_of_ble_eq_true rfl)) dX4_rank_27 ⟨Nat.le_of_ble_eq_true rfl, Nat.le_of_ble_eq_true rfl⟩) (fun u_27 H locs hq_27 hP hD hS => ?_)
      obtain ⟨hs2, tl2, Q2, rfl, hQ2⟩ := hq_27
      have hP : va_P D vwCl ((clsN kA ox os ob ot sl hs2 h tf tz f g (V 0) (V 1) (V 2) ln (pushN kt)) ++ tl2) H := hP
      have hD : va_D A ((clsN kA ox os ob ot sl hs2 h tf tz f g (V 0) (V 1) (V 2) ln (pushN kt)) ++ tl2) := hD
      refine lv_aload_n hx hb dX4_rank_30 rfl (lv_at hl 0 rfl) ?_
      refine xGet C hN hP 0 (j := 0) rfl rfl iX4_rank_X4 (by decide) kX4_rank_12 rfl rfl dX4_rank_31 ?_
      refine xGet C hN hP 12 (j := 1) rfl rfl iX4_rank_X3 (by decide) kX4_rank_105 rfl rfl dX4_rank_34 ?_
      refine xGet C hN hP 20 (j := 1) rfl rfl iX4_rank_X0 (by decide) kX4_rank_120 rfl rfl dX4_rank_37 ?_
      refine lv_iload_n hx hb dX4_rank_40 rfl (lv_at hl 1 rfl) ?_
      refine xIald C hN hP 22 (j := i) (v := nI (V (129 + 4 * i + 1))) rfl (by omega) (by decide) (hr.2.1 i (by omega) 1 (by decide)) dX4_rank_41 ?_
      refine lv_istore_n (lv' := [(3, .int (nI (V (129 + 4 * i + 1)))), (0, .ref (ox 0)), (1, .int (nI i)), (2, .int (nI r1))]) hx hb dX4_rank_42 rfl hl (by decide) rfl (fun ls hl => ?_)
      refine lv_aload_n hx hb dX4_rank_43 rfl (lv_at hl 1 rfl) ?_
      refine xGet C hN hP 0 (j := 0) rfl rfl iX4_rank_X4 (by decide) kX4_rank_12 rfl rfl dX4_rank_44 ?_
      refine xGet C hN hP 12 (j := 1) rfl rfl iX4_rank_X3 (by decide) kX4_rank_105 rfl rfl dX4_rank_47 ?_
      refine xGet C hN hP 20 (j := 1) rfl rfl iX4_rank_X0 (by decide) kX4_rank_120 rfl rfl dX4_rank_50 ?_
      refine lv_iload_n hx hb dX4_rank_53 rfl (lv_at hl 2 rfl) ?_
      refine lv_iload_n hx hb dX4_rank_54 rfl (lv_at hl 3 rfl) ?_
      refine xIast C hN hP hD hS 22 (j := i) rfl (by omega) (by decide) dX4_rank_55 (fun H locs hP hD hS => ?_)
      have hP : va_P D vwCl ((clsN kA ox os ob ot sl hs2 h tf tz f (setF g 1 (upd (g 1) (i) (nI r1))) (V 0) (V 1) (V 2) ln (pushN kt)) ++ tl2) H := hP
      have hD : va_D A ((clsN kA ox os ob ot sl hs2 h tf tz f (setF g 1 (upd (g 1) (i) (nI r1))) (V 0) (V 1) (V 2) ln (pushN kt)) ++ tl2) := hD
      refine lv_iload_n hx hb dX4_rank_56 rfl (lv_at hl 0 rfl) ?_
      exact xRetI hx hb hret (v := nI (V (129 + 4 * i + 1))) (retC (S2 := ((updN V (129 + 4 * i + 1) r1), ln, P, (pushN kt), (pushH HH kt V), HB, LL)) (by simp [opRank, h_11, t_i, h_20, t_r1]) ⟨sl, hs2, h, tf, tz, f, (setF g 1 (upd (g 1) (i) (nI r1))), tl2, Q2, clsU (sz_upd (by omega)).1 (sz_upd (by omega)).2.1 (sz_upd (by omega)).2.2, relN_rank hr hV, hpd, hQ2⟩) hP hD hS dX4_rank_57 hlocks
    · skip
      refine lv_bipush (v := (-2)) hx hb dX4_rank_23 (by decide) ?_
      refine W.widen (k := 14) (n := 212) (Nat.le_of_ble_eq_true rfl) (Nat.le_of_ble_eq_true rfl) ?_
      exact xRetI hx hb hret (v := (-2)) (retC (S2 := (V, ln, P, kt, HH, HB, LL)) (by simp [opRank, h_11, t_i, h_20]) ⟨sl, hs, h, tf, tz, f, g, tl, Q, rfl, hr, hpd, hQ⟩) hP hD hS dX4_rank_25 hlocks
  · skip
    refine lv_iconst (v := (-1)) hx hb dX4_rank_14 (by decide) ?_
    refine W.widen (k := 14) (n := 212) (Nat.le_of_ble_eq_true rfl) (Nat.le_of_ble_eq_true rfl) ?_
    exact xRetI hx hb hret (v := (-1)) (retC (S2 := (V, ln, P, kt, HH, HB, LL)) (by simp [opRank, h_11]) ⟨sl, hs, h, tf, tz, f, g, tl, Q, rfl, hr, hpd, hQ⟩) hP hD hS dX4_rank_15 hlocks
