set_option maxHeartbeats 8000000 in
set_option maxRecDepth 100000 in
theorem c_X4_copyInto_n (xl : Launch) (D : va_G) (kA : Nat → ClassId) (ox os ob ot : Nat → Nat) (sl hs : Nat → Option Nat) (h : Nat → Int32) (tf : Nat → Nat → Int32) (tz : Int32) (f g : Nat → Nat → Int32) (V : Nat → Nat) (ln kt : Nat) (tl : va_W) (A : Nat → Prop) : Met xl yX4_copyInto wsX4_copyInto { frames := 4, cells := 14, slots := 212, locals := 103 } (va_Pc [.ref (ox 0), .null] (xPw D kA A ((clsN kA ox os ob ot sl hs h tf tz f g (V 0) (V 1) (V 2) ln kt) ++ tl))) (xQq D A (fun r u => ∃ a2 : Nat → Nat, r = some (a2 0) ∧ u = (clsW kA ox os ob ot sl hs h tf tz f g V ln kt ++ stW kA a2 f (nI (V 0)) g (nI (V 1)) (nI (V 2))) ++ tl)) 14 212 A := by
  refine Met.ofW (cc := cX4_copyInto) (maxL := 3) (ret := (some (.object "LayeredCharters$State"))) (by decide) rfl ?_
  intro xp xe xs xm args xbe xme xc s₁ B hml hv
  obtain ⟨rfl, hP, hN, hD, hA⟩ := hv
  have hret := B.returns
  have C : CallFix xp xm xc cX4_copyInto 3 xs ([.ref (ox 0), .null] : List Value).toArray wsX4_copyInto RX4 := ⟨B.exec, B.bytes, hml, findClass_of_methodNamed B.named, atoms_spec (ws := wsX4_copyInto) B.pre⟩
  have hlocks := B.notSynchronized
  obtain ⟨hx, hb, _, hown, hts⟩ := id C
  have hS : va_S A xs.heap xs.heap [] := va_S.rf
  have hl := lv_entry ([.ref (ox 0), .null]) (n := 3) (Nat.le_of_ble_eq_true rfl)
  rw [lg_entry_eq]
  generalize (lg_sl ([.ref (ox 0), .null]) ++ List.replicate (3 - (lg_sl ([.ref (ox 0), .null])).length) Slot.unset).toArray = ls at hl ⊢
  have hl : lv_has ls 3 [(0, .ref (ox 0)), (1, .null)] := hl
  refine lv_aload_nN hx hb dX4_copyInto_0 rfl (lv_at hl 1 rfl) ?_
  refine lv_ifnonnullN hx hb dX4_copyInto_1 ?_
  refine xNew C hN hP hD hS hA (ci := 3) (fs := [.null, .null]) rfl iX4_copyInto_X3 tyX3_ok (List.mem_of_getElem? (i := 1) rfl) (List.mem_of_getElem? (i := 2) rfl) (List.mem_of_getElem? (i := 3) rfl) (fun j hj => by rcases (show j = 0 ∨ j = 1 by omega) with rfl | rfl <;> rfl) (Nat.le_of_ble_eq_true rfl) (Nat.le_of_ble_eq_true rfl) dX4_copyInto_4 (fun q_4 H hP hD hS => ?_)
  have hP := xPerP hP (pm_new (clsN kA ox os ob ot sl hs h tf tz f g (V 0) (V 1) (V 2) ln kt) tl [(q_4, .inr (3, [.null, .null]))])
  have hD := xPerD hD (pm_new (clsN kA ox os ob ot sl hs h tf tz f g (V 0) (V 1) (V 2) ln kt) tl [(q_4, .inr (3, [.null, .null]))])
  have hP : va_P D vwCl ((clsN kA ox os ob ot sl hs h tf tz f g (V 0) (V 1) (V 2) ln kt ++ [(q_4, .inr (3, [.null, .null]))]) ++ tl) H := hP
  have hD : va_D A ((clsN kA ox os ob ot sl hs h tf tz f g (V 0) (V 1) (V 2) ln kt ++ [(q_4, .inr (3, [.null, .null]))]) ++ tl) := hD
  refine lv_dup hx hb dX4_copyInto_7 rfl ?_
  refine xWv (L := (clsN kA ox os ob ot sl hs h tf tz f g (V 0) (V 1) (V 2) ln kt ++ [(q_4, .inr (3, [.null, .null]))])) (tl := tl) (wc := ([(q_4, .inr (3, [.null, .null]))])) (wr := ([0, 1, 2, 3, 4, 5, 6, 7, 8, 9, 10, 11, 12, 13, 14, 15, 16, 17, 18, 19, 20, 21, 22, 23, 24, 25].filterMap (fun i => ((clsN kA ox os ob ot sl hs h tf tz f g (V 0) (V 1) (V 2) ln kt ++ [(q_4, .inr (3, [.null, .null]))]))[i]?))) hP hD hS hA [26] [0, 1, 2, 3, 4, 5, 6, 7, 8, 9, 10, 11, 12, 13, 14, 15, 16, 17, 18, 19, 20, 21, 22, 23, 24, 25] rfl rfl (by decide) (by decide) (va_runIN (As := []) (rest := [.ref q_4]) C (c_X3_init xl D kA q_4 _) ⟨(va_cnB 0 hts gX4_copyInto_X3_init_n11 rfl rfl rfl hN.2.1 (hts _ (List.mem_of_getElem? (i := 3) rfl)) (by decide +kernel) ⟨Nat.le_of_ble_eq_true rfl, Nat.le_of_ble_eq_true rfl⟩), rfl, hts _ (List.mem_of_getElem? (i := 5) rfl)⟩ (xPreSw hN (xSubL (wc := ([(q_4, .inr (3, [.null, .null]))])) (L := (clsN kA ox os ob ot sl hs h tf tz f g (V 0) (V 1) (V 2) ln kt ++ [(q_4, .inr (3, [.null, .null]))])) (tl := tl) hP [26] rfl) (xSubD (wc := ([(q_4, .inr (3, [.null, .null]))])) (L := (clsN kA ox os ob ot sl hs h tf tz f g (V 0) (V 1) (V 2) ln kt ++ [(q_4, .inr (3, [.null, .null]))])) (tl := tl) hD [26] (by decide) rfl).self (fun _ h => Or.inr h)) rfl rfl hl.1 rfl (lv_room (Nat.le_of_ble_eq_true rfl)) dX4_copyInto_8 ⟨Nat.le_of_ble_eq_true rfl, Nat.le_of_ble_eq_true rfl⟩) (fun u_8 H locs hq_8 hP hD hS => ?_)
  obtain ⟨a_8, e_8, rfl⟩ := hq_8
  have hP9 := hP
  have hD9 := hD
  have hS9 := hS
  subst e_8
  have hP := hP9
  have hD := hD9
  have hS := hS9
  have hD : va_D A ((clsN kA ox os ob ot sl hs h tf tz f g (V 0) (V 1) (V 2) ln kt ++ stW kA a_8 zF (nI 0) zF (nI 0) (nI 0)) ++ tl) := xPermD (tl := tl) hD [0, 1, 2, 3, 4, 5, 6, 7, 8, 9, 10, 11, 12, 13, 14, 15, 16, 17, 18, 19, 20, 21, 22, 23, 24, 25, 26, 27, 28, 29, 30, 31, 32, 33, 34, 35, 36, 37, 38, 39] (by decide) rfl
  have hP : va_P D vwCl ((clsN kA ox os ob ot sl hs h tf tz f g (V 0) (V 1) (V 2) ln kt ++ stW kA a_8 zF (nI 0) zF (nI 0) (nI 0)) ++ tl) H := xPermP (tl := tl) hP [0, 1, 2, 3, 4, 5, 6, 7, 8, 9, 10, 11, 12, 13, 14, 15, 16, 17, 18, 19, 20, 21, 22, 23, 24, 25, 26, 27, 28, 29, 30, 31, 32, 33, 34, 35, 36, 37, 38, 39] rfl
  refine lv_goto (tgt := 15) hx hb dX4_copyInto_11 (by decide) ?_
  refine lv_astore_n (lv' := [(2, .ref (a_8 0)), (0, .ref (ox 0)), (1, .null)]) hx hb dX4_copyInto_15 rfl hl (by decide) rfl (fun ls hl => ?_)
  refine lv_aload_n hx hb dX4_copyInto_16 rfl (lv_at hl 0 rfl) ?_
  refine lv_aload_n hx hb dX4_copyInto_17 rfl (lv_at hl 1 rfl) ?_
  refine xGet C hN hP 0 (j := 0) rfl rfl iX4_copyInto_X4 (by decide) kX4_copyInto_12 rfl rfl dX4_copyInto_18 ?_
  refine xWv (L := (clsN kA ox os ob ot sl hs h tf tz f g (V 0) (V 1) (V 2) ln kt ++ stW kA a_8 zF (nI 0) zF (nI 0) (nI 0))) (tl := tl) (wc := (stW kA a_8 zF (nI 0) zF (nI 0) (nI 0) ++ stW kA os f (nI (V 0)) g (nI (V 1)) (nI (V 2)))) (wr := ([0, 1, 2, 3, 4, 5, 6, 7, 8, 9, 10, 11].filterMap (fun i => ((clsN kA ox os ob ot sl hs h tf tz f g (V 0) (V 1) (V 2) ln kt ++ stW kA a_8 zF (nI 0) zF (nI 0) (nI 0)))[i]?))) hP hD hS hA [26, 27, 28, 29, 30, 31, 32, 33, 34, 35, 36, 37, 38, 39, 12, 13, 14, 15, 16, 17, 18, 19, 20, 21, 22, 23, 24, 25] [0, 1, 2, 3, 4, 5, 6, 7, 8, 9, 10, 11] rfl rfl (by decide) (by decide) (va_runV (As := [.ref (os 0)]) (rest := []) C (c_X3_copyFrom xl D kA a_8 os zF zF (nI 0) (nI 0) (nI 0) f g (nI (V 0)) (nI (V 1)) (nI (V 2)) _) (cwV 1 hts gX4_copyInto_X3_copyFrom rfl rfl rfl (by decide +kernel) ⟨Nat.le_of_ble_eq_true rfl, Nat.le_of_ble_eq_true rfl⟩) (xPreVw (q0 := 0) hN (xSubL (wc := (stW kA a_8 zF (nI 0) zF (nI 0) (nI 0) ++ stW kA os f (nI (V 0)) g (nI (V 1)) (nI (V 2)))) (L := (clsN kA ox os ob ot sl hs h tf tz f g (V 0) (V 1) (V 2) ln kt ++ stW kA a_8 zF (nI 0) zF (nI 0) (nI 0))) (tl := tl) hP [26, 27, 28, 29, 30, 31, 32, 33, 34, 35, 36, 37, 38, 39, 12, 13, 14, 15, 16, 17, 18, 19, 20, 21, 22, 23, 24, 25] rfl) (xSubD (wc := (stW kA a_8 zF (nI 0) zF (nI 0) (nI 0) ++ stW kA os f (nI (V 0)) g (nI (V 1)) (nI (V 2)))) (L := (clsN kA ox os ob ot sl hs h tf tz f g (V 0) (V 1) (V 2) ln kt ++ stW kA a_8 zF (nI 0) zF (nI 0) (nI 0))) (tl := tl) hD [26, 27, 28, 29, 30, 31, 32, 33, 34, 35, 36, 37, 38, 39, 12, 13, 14, 15, 16, 17, 18, 19, 20, 21, 22, 23, 24, 25] (by decide) rfl).self (fun _ h => Or.inr h) rfl rfl rfl) rfl rfl hl.1 rfl (lv_room (Nat.le_of_ble_eq_true rfl)) dX4_copyInto_21 ⟨Nat.le_of_ble_eq_true rfl, Nat.le_of_ble_eq_true rfl⟩) (fun u_21 H locs hq_21 hP hD hS => ?_)
  subst hq_21
  have hD : va_D A ((clsN kA ox os ob ot sl hs h tf tz f g (V 0) (V 1) (V 2) ln kt ++ stW kA a_8 f (nI (V 0)) g (nI (V 1)) (nI (V 2))) ++ tl) := xPermD (tl := tl) hD [0, 1, 2, 3, 4, 5, 6, 7, 8, 9, 10, 11, 26, 27, 28, 29, 30, 31, 32, 33, 34, 35, 36, 37, 38, 39, 12, 13, 14, 15, 16, 17, 18, 19, 20, 21, 22, 23, 24, 25] (by decide) rfl
  have hP : va_P D vwCl ((clsN kA ox os ob ot sl hs h tf tz f g (V 0) (V 1) (V 2) ln kt ++ stW kA a_8 f (nI (V 0)) g (nI (V 1)) (nI (V 2))) ++ tl) H := xPermP (tl := tl) hP [0, 1, 2, 3, 4, 5, 6, 7, 8, 9, 10, 11, 26, 27, 28, 29, 30, 31, 32, 33, 34, 35, 36, 37, 38, 39, 12, 13, 14, 15, 16, 17, 18, 19, 20, 21, 22, 23, 24, 25] rfl
  refine lv_aload_n hx hb dX4_copyInto_24 rfl (lv_at hl 0 rfl) ?_
  exact xRetQ hx hb hret (⟨a_8, rfl, rfl⟩) hP hD hS dX4_copyInto_25 hlocks

set_option maxHeartbeats 8000000 in
set_option maxRecDepth 100000 in
theorem c_X4_copyInto_s (xl : Launch) (D : va_G) (kA : Nat → ClassId) (ox os ob ot : Nat → Nat) (sl hs : Nat → Option Nat) (h : Nat → Int32) (tf : Nat → Nat → Int32) (tz : Int32) (f g : Nat → Nat → Int32) (V : Nat → Nat) (ln kt : Nat) (tl : va_W) (c : Nat → Nat) (cf cg : Nat → Nat → Int32) (cU : Nat → Nat) (A : Nat → Prop) : Met xl yX4_copyInto wsX4_copyInto { frames := 4, cells := 0, slots := 0, locals := 103 } (va_Pc [.ref (ox 0), .ref (c 0)] (xPw D kA A ((clsN kA ox os ob ot sl hs h tf tz f g (V 0) (V 1) (V 2) ln kt ++ stW kA c cf (nI (cU 0)) cg (nI (cU 1)) (nI (cU 2))) ++ tl))) (xQq D A (fun r u => r = some (c 0) ∧ u = (clsW kA ox os ob ot sl hs h tf tz f g V ln kt ++ stW kA c f (nI (V 0)) g (nI (V 1)) (nI (V 2))) ++ tl)) 0 0 A := by
  refine Met.ofW (cc := cX4_copyInto) (maxL := 3) (ret := (some (.object "LayeredCharters$State"))) (by decide) rfl ?_
  intro xp xe xs xm args xbe xme xc s₁ B hml hv
  obtain ⟨rfl, hP, hN, hD, hA⟩ := hv
  have hret := B.returns
  have C : CallFix xp xm xc cX4_copyInto 3 xs ([.ref (ox 0), .ref (c 0)] : List Value).toArray wsX4_copyInto RX4 := ⟨B.exec, B.bytes, hml, findClass_of_methodNamed B.named, atoms_spec (ws := wsX4_copyInto) B.pre⟩
  have hlocks := B.notSynchronized
  obtain ⟨hx, hb, _, hown, hts⟩ := id C
  have hS : va_S A xs.heap xs.heap [] := va_S.rf
  have hl := lv_entry ([.ref (ox 0), .ref (c 0)]) (n := 3) (Nat.le_of_ble_eq_true rfl)
  rw [lg_entry_eq]
  generalize (lg_sl ([.ref (ox 0), .ref (c 0)]) ++ List.replicate (3 - (lg_sl ([.ref (ox 0), .ref (c 0)])).length) Slot.unset).toArray = ls at hl ⊢
  have hl : lv_has ls 3 [(0, .ref (ox 0)), (1, .ref (c 0))] := hl
  refine lv_aload_n hx hb dX4_copyInto_0 rfl (lv_at hl 1 rfl) ?_
  refine lv_ifnonnull (tgt := 14) hx hb dX4_copyInto_1 (by decide) ?_
  refine lv_aload_n hx hb dX4_copyInto_14 rfl (lv_at hl 1 rfl) ?_
  refine lv_astore_n (lv' := [(2, .ref (c 0)), (0, .ref (ox 0)), (1, .ref (c 0))]) hx hb dX4_copyInto_15 rfl hl (by decide) rfl (fun ls hl => ?_)
  refine lv_aload_n hx hb dX4_copyInto_16 rfl (lv_at hl 0 rfl) ?_
  refine lv_aload_n hx hb dX4_copyInto_17 rfl (lv_at hl 1 rfl) ?_
  refine xGet C hN hP 0 (j := 0) rfl rfl iX4_copyInto_X4 (by decide) kX4_copyInto_12 rfl rfl dX4_copyInto_18 ?_
  refine xWv (L := (clsN kA ox os ob ot sl hs h tf tz f g (V 0) (V 1) (V 2) ln kt ++ stW kA c cf (nI (cU 0)) cg (nI (cU 1)) (nI (cU 2)))) (tl := tl) (wc := (stW kA c cf (nI (cU 0)) cg (nI (cU 1)) (nI (cU 2)) ++ stW kA os f (nI (V 0)) g (nI (V 1)) (nI (V 2)))) (wr := ([0, 1, 2, 3, 4, 5, 6, 7, 8, 9, 10, 11].filterMap (fun i => ((clsN kA ox os ob ot sl hs h tf tz f g (V 0) (V 1) (V 2) ln kt ++ stW kA c cf (nI (cU 0)) cg (nI (cU 1)) (nI (cU 2))))[i]?))) hP hD hS hA [26, 27, 28, 29, 30, 31, 32, 33, 34, 35, 36, 37, 38, 39, 12, 13, 14, 15, 16, 17, 18, 19, 20, 21, 22, 23, 24, 25] [0, 1, 2, 3, 4, 5, 6, 7, 8, 9, 10, 11] rfl rfl (by decide) (by decide) (va_runV (As := [.ref (os 0)]) (rest := []) C (c_X3_copyFrom xl D kA c os cf cg (nI (cU 0)) (nI (cU 1)) (nI (cU 2)) f g (nI (V 0)) (nI (V 1)) (nI (V 2)) _) (cwV 1 hts gX4_copyInto_X3_copyFrom rfl rfl rfl (by decide +kernel) ⟨Nat.le_of_ble_eq_true rfl, Nat.le_of_ble_eq_true rfl⟩) (xPreVw (q0 := 0) hN (xSubL (wc := (stW kA c cf (nI (cU 0)) cg (nI (cU 1)) (nI (cU 2)) ++ stW kA os f (nI (V 0)) g (nI (V 1)) (nI (V 2)))) (L := (clsN kA ox os ob ot sl hs h tf tz f g (V 0) (V 1) (V 2) ln kt ++ stW kA c cf (nI (cU 0)) cg (nI (cU 1)) (nI (cU 2)))) (tl := tl) hP [26, 27, 28, 29, 30, 31, 32, 33, 34, 35, 36, 37, 38, 39, 12, 13, 14, 15, 16, 17, 18, 19, 20, 21, 22, 23, 24, 25] rfl) (xSubD (wc := (stW kA c cf (nI (cU 0)) cg (nI (cU 1)) (nI (cU 2)) ++ stW kA os f (nI (V 0)) g (nI (V 1)) (nI (V 2)))) (L := (clsN kA ox os ob ot sl hs h tf tz f g (V 0) (V 1) (V 2) ln kt ++ stW kA c cf (nI (cU 0)) cg (nI (cU 1)) (nI (cU 2)))) (tl := tl) hD [26, 27, 28, 29, 30, 31, 32, 33, 34, 35, 36, 37, 38, 39, 12, 13, 14, 15, 16, 17, 18, 19, 20, 21, 22, 23, 24, 25] (by decide) rfl).self (fun _ h => Or.inr h) rfl rfl rfl) rfl rfl hl.1 rfl (lv_room (Nat.le_of_ble_eq_true rfl)) dX4_copyInto_21 ⟨Nat.le_of_ble_eq_true rfl, Nat.le_of_ble_eq_true rfl⟩) (fun u_21 H locs hq_21 hP hD hS => ?_)
  subst hq_21
  have hD : va_D A ((clsN kA ox os ob ot sl hs h tf tz f g (V 0) (V 1) (V 2) ln kt ++ stW kA c f (nI (V 0)) g (nI (V 1)) (nI (V 2))) ++ tl) := xPermD (tl := tl) hD [0, 1, 2, 3, 4, 5, 6, 7, 8, 9, 10, 11, 26, 27, 28, 29, 30, 31, 32, 33, 34, 35, 36, 37, 38, 39, 12, 13, 14, 15, 16, 17, 18, 19, 20, 21, 22, 23, 24, 25] (by decide) rfl
  have hP : va_P D vwCl ((clsN kA ox os ob ot sl hs h tf tz f g (V 0) (V 1) (V 2) ln kt ++ stW kA c f (nI (V 0)) g (nI (V 1)) (nI (V 2))) ++ tl) H := xPermP (tl := tl) hP [0, 1, 2, 3, 4, 5, 6, 7, 8, 9, 10, 11, 26, 27, 28, 29, 30, 31, 32, 33, 34, 35, 36, 37, 38, 39, 12, 13, 14, 15, 16, 17, 18, 19, 20, 21, 22, 23, 24, 25] rfl
  refine lv_aload_n hx hb dX4_copyInto_24 rfl (lv_at hl 0 rfl) ?_
  exact xRetQ hx hb hret (⟨rfl, rfl⟩) hP hD hS dX4_copyInto_25 hlocks

set_option maxHeartbeats 8000000 in
set_option maxRecDepth 100000 in
theorem c_X4_dropOldest (xl : Launch) (D : va_G) (kA : Nat → ClassId) (ox os ob ot : Nat → Nat) (sl hs : Nat → Option Nat) (h : Nat → Int32) (tf : Nat → Nat → Int32) (tz : Int32) (f g : Nat → Nat → Int32) (V : Nat → Nat) (ln kt : Nat) (tl : va_W) (v0 : Nat) (h0 : hs 0 = some v0) (hv : ∀ i, i < 6 → ∀ v, hs i = some v → ∃ (k : Nat) (vs : List Value), tl[k]? = some (v, .inr (3, vs))) (A : Nat → Prop) : Met xl yX4_dropOldest wsX4_dropOldest { frames := 0, cells := 0, slots := 0, locals := 0 } (va_Pc [.ref (ox 0)] (xPw D kA A ((clsN kA ox os ob ot sl hs h tf tz f g (V 0) (V 1) (V 2) ln kt) ++ tl))) (xQv D A (fun u => u = clsW kA ox os ob ot sl (rotH hs) h tf tz f g V ln 5 ++ tl)) 0 0 A := by
  refine Met.ofW (cc := cX4_dropOldest) (maxL := 3) (ret := none) (by decide) rfl ?_
  intro xp xe xs xm args xbe xme xc s₁ B hml hv
  obtain ⟨rfl, hP, hN, hD, hA⟩ := hv
  have hret := B.returns
  have C : CallFix xp xm xc cX4_dropOldest 3 xs ([.ref (ox 0)] : List Value).toArray wsX4_dropOldest RX4 := ⟨B.exec, B.bytes, hml, findClass_of_methodNamed B.named, atoms_spec (ws := wsX4_dropOldest) B.pre⟩
  have hlocks := B.notSynchronized
  obtain ⟨hx, hb, _, hown, hts⟩ := id C
  have hS : va_S A xs.heap xs.heap [] := va_S.rf
  have hl := lv_entry ([.ref (ox 0)]) (n := 3) (Nat.le_of_ble_eq_true rfl)
  rw [lg_entry_eq]
  generalize (lg_sl ([.ref (ox 0)]) ++ List.replicate (3 - (lg_sl ([.ref (ox 0)])).length) Slot.unset).toArray = ls at hl ⊢
  have hl : lv_has ls 3 [(0, .ref (ox 0))] := hl
  refine lv_aload_n hx hb dX4_dropOldest_0 rfl (lv_at hl 0 rfl) ?_
  refine xGet C hN hP 0 (j := 3) rfl rfl iX4_dropOldest_X4 (by decide) kX4_dropOldest_27 rfl rfl dX4_dropOldest_1 ?_
  refine lv_iconst (v := nI 0) hx hb dX4_dropOldest_4 (by decide) ?_
  refine xAald C hN hP 2 (j := 0) (v := .ref v0) rfl (by omega) (by decide) (by rw [h0]; rfl) dX4_dropOldest_5 ?_
  refine lv_astore_n (lv' := [(1, .ref v0), (0, .ref (ox 0))]) hx hb dX4_dropOldest_6 rfl hl (by decide) rfl (fun ls hl => ?_)
  refine lv_iconst (v := nI 0) hx hb dX4_dropOldest_7 (by decide) ?_
  refine lv_istore_n (lv' := [(2, .int (nI 0)), (1, .ref v0), (0, .ref (ox 0))]) hx hb dX4_dropOldest_8 rfl hl (by decide) rfl (fun ls hl => ?_)
  rw [← dropH_0 hs] at hP hD
  skip
  have L9 : ∀ (fuel : Nat), ∀ (k : Nat) (hmu : 5 - k < fuel) (hk5 : k ≤ 5) (H : Heap) (locs : List Loc) (_ : va_P D vwCl ((clsN kA ox os ob ot sl (dropH hs k) h tf tz f g (V 0) (V 1) (V 2) ln kt) ++ tl) H) (_ : va_D A ((clsN kA ox os ob ot sl (dropH hs k) h tf tz f g (V 0) (V 1) (V 2) ln kt) ++ tl)) (_ : va_S A xs.heap H locs) (ls : Array Slot) (_ : lv_has ls 3 [(2, .int (nI k)), (1, .ref v0), (0, .ref (ox 0))]), W xp xl xe (headSpec wsX4_dropOldest { frames := 0, cells := 0, slots := 0, locals := 0 }).room xs xm ([.ref (ox 0)] : List Value).toArray xbe xme xc H locs 0 0 (MQ xbe (xQv D A (fun u => u = clsW kA ox os ob ot sl (rotH hs) h tf tz f g V ln 5 ++ tl)) ([.ref (ox 0)] : List Value).toArray xs 0 0 A) (F0 xm 9 ls []) := by
    intro fuel
    induction fuel with
    | zero => intro k hmu; exact absurd hmu (Nat.not_lt_zero _)
    | succ fuel ih9 =>
      intro k hmu hk5 H locs hP hD hS ls hl
      refine lv_iload_n hx hb dX4_dropOldest_9 rfl (lv_at hl 0 rfl) ?_
      refine lv_iconst (v := nI 5) hx hb dX4_dropOldest_10 (by decide) ?_
      refine xIcmpGe C (tgt := 34) (by omega) (by decide) dX4_dropOldest_11 (by decide) (fun h_11 => ?_) (fun h_11 => ?_)
      · skip
        refine lv_aload_n hx hb dX4_dropOldest_34 rfl (lv_at hl 2 rfl) ?_
        refine xGet C hN hP 0 (j := 3) rfl rfl iX4_dropOldest_X4 (by decide) kX4_dropOldest_27 rfl rfl dX4_dropOldest_35 ?_
        refine lv_iconst (v := nI 5) hx hb dX4_dropOldest_38 (by decide) ?_
        refine lv_aload_n hx hb dX4_dropOldest_39 rfl (lv_at hl 1 rfl) ?_
        refine xAastR C hN hP hD hS 2 (j := 5) (r := (some v0)) rfl (fun v e => by obtain ⟨q, vs, hq⟩ := hv 0 (by omega) v (h0.trans e); exact ⟨26 + q, vs, at_tl hq rfl⟩) (by omega) (by decide) dX4_dropOldest_40 (fun H locs hP hD hS => ?_)
        rw [show va_up (dropH hs k) (5) (some v0) = rotH hs from by rw [← h0, show k = 5 by omega, dropH_e]] at hP hD
        have hP : va_P D vwCl ((clsN kA ox os ob ot sl (rotH hs) h tf tz f g (V 0) (V 1) (V 2) ln kt) ++ tl) H := hP
        have hD : va_D A ((clsN kA ox os ob ot sl (rotH hs) h tf tz f g (V 0) (V 1) (V 2) ln kt) ++ tl) := hD
        refine lv_aload_n hx hb dX4_dropOldest_41 rfl (lv_at hl 2 rfl) ?_
        refine lv_iconst (v := nI 5) hx hb dX4_dropOldest_42 (by decide) ?_
        refine xPut C hN hP hD hS 0 (j := 4) (v := .int (nI 5)) rfl rfl iX4_dropOldest_X4 tyX4_ok nmX4 (by decide) kX4_dropOldest_30 rfl rfl rfl rfl (Nat.le_of_ble_eq_true rfl) dX4_dropOldest_43 (fun H locs hP hD hS => ?_)
        have hP : va_P D vwCl ((clsN kA ox os ob ot sl (rotH hs) h tf tz f g (V 0) (V 1) (V 2) ln 5) ++ tl) H := hP
        have hD : va_D A ((clsN kA ox os ob ot sl (rotH hs) h tf tz f g (V 0) (V 1) (V 2) ln 5) ++ tl) := hD
        exact xRetV hx hb hret (rfl) hP hD hS dX4_dropOldest_46 hlocks
      · skip
        refine lv_aload_n hx hb dX4_dropOldest_14 rfl (lv_at hl 2 rfl) ?_
        refine xGet C hN hP 0 (j := 3) rfl rfl iX4_dropOldest_X4 (by decide) kX4_dropOldest_27 rfl rfl dX4_dropOldest_15 ?_
        refine lv_iload_n hx hb dX4_dropOldest_18 rfl (lv_at hl 0 rfl) ?_
        refine lv_aload_n hx hb dX4_dropOldest_19 rfl (lv_at hl 2 rfl) ?_
        refine xGet C hN hP 0 (j := 3) rfl rfl iX4_dropOldest_X4 (by decide) kX4_dropOldest_27 rfl rfl dX4_dropOldest_20 ?_
        refine lv_iload_n hx hb dX4_dropOldest_23 rfl (lv_at hl 0 rfl) ?_
        refine lv_iconst (v := nI 1) hx hb dX4_dropOldest_24 (by decide) ?_
        refine xIadd C dX4_dropOldest_25 ?_
        refine xAald C hN hP 2 (j := k + 1) (v := va_rf (hs (k + 1))) rfl (by omega) (by decide) (congrArg va_rf (dropH_hi hs k)) dX4_dropOldest_26 ?_
        refine xAastR C hN hP hD hS 2 (j := k) (r := (hs (k + 1))) rfl (fun v e => by obtain ⟨q, vs, hq⟩ := hv (k + 1) (by omega) v e; exact ⟨26 + q, vs, at_tl hq rfl⟩) (by omega) (by decide) dX4_dropOldest_27 (fun H locs hP hD hS => ?_)
        rw [show va_up (dropH hs k) (k) (hs (k + 1)) = dropH hs (k + 1) from dropH_s hs k] at hP hD
        have hP : va_P D vwCl ((clsN kA ox os ob ot sl (dropH hs (k + 1)) h tf tz f g (V 0) (V 1) (V 2) ln kt) ++ tl) H := hP
        have hD : va_D A ((clsN kA ox os ob ot sl (dropH hs (k + 1)) h tf tz f g (V 0) (V 1) (V 2) ln kt) ++ tl) := hD
        refine xIinc C (kx := 0) (d := 1) (lv' := [(2, .int (nI (k + 1))), (1, .ref v0), (0, .ref (ox 0))]) dX4_dropOldest_28 hl rfl (by decide) (by decide) rfl (fun ls hl => ?_)
        refine lv_goto (tgt := 9) hx hb dX4_dropOldest_31 (by decide) ?_
        have hP : va_P D vwCl ((clsN kA ox os ob ot sl (dropH hs (k + 1)) h tf tz f g (V 0) (V 1) (V 2) ln kt) ++ tl) H := hP
        exact ih9 (k + 1) (by omega) (by omega) _ _ hP hD hS _ (lv_sub hl [0, 1, 2] rfl)
  exact L9 _ 0 (Nat.lt_succ_self _) (by omega) _ _ hP hD hS _ (lv_sub hl [0, 1, 2] rfl)

set_option maxHeartbeats 8000000 in
set_option maxRecDepth 100000 in
theorem c_X4_remember (xl : Launch) (D : va_G) (kA : Nat → ClassId) (ox os ob ot : Nat → Nat) (sl hs : Nat → Option Nat) (h : Nat → Int32) (tf : Nat → Nat → Int32) (tz : Int32) (f g : Nat → Nat → Int32) (V : Nat → Nat) (ln kt : Nat) (tl : va_W) (HH : Nat → Nat → Nat) (HB : Nat → Bool) (LL : Nat → Nat → Nat) (Q : Nat → Option Ent) (hr : relN V f g) (hQ : QR kA sl hs tl kt HH HB LL Q) (hk : kt ≤ 6) (A : Nat → Prop) : Met xl yX4_remember wsX4_remember { frames := 5, cells := 14, slots := 212, locals := 125 } (va_Pc [.ref (ox 0)] (xPw D kA A ((clsN kA ox os ob ot sl hs h tf tz f g (V 0) (V 1) (V 2) ln kt) ++ tl))) (xQv D A (fun u => ∃ (hs2 : Nat → Option Nat) (tl2 : va_W) (Q2 : Nat → Option Ent), u = clsW kA ox os ob ot sl hs2 h tf tz f g V ln (pushN kt) ++ tl2 ∧ QR kA sl hs2 tl2 (pushN kt) (pushH HH kt V) HB LL Q2)) 14 212 A := by
  refine Met.ofW (cc := cX4_remember) (maxL := 1) (ret := none) (by decide) rfl ?_
  intro xp xe xs xm args xbe xme xc s₁ B hml hv
  obtain ⟨rfl, hP, hN, hD, hA⟩ := hv
  have hret := B.returns
  have C : CallFix xp xm xc cX4_remember 1 xs ([.ref (ox 0)] : List Value).toArray wsX4_remember RX4 := ⟨B.exec, B.bytes, hml, findClass_of_methodNamed B.named, atoms_spec (ws := wsX4_remember) B.pre⟩
  have hlocks := B.notSynchronized
  obtain ⟨hx, hb, _, hown, hts⟩ := id C
  have hS : va_S A xs.heap xs.heap [] := va_S.rf
  have hl := lv_entry ([.ref (ox 0)]) (n := 1) (Nat.le_of_ble_eq_true rfl)
  rw [lg_entry_eq]
  generalize (lg_sl ([.ref (ox 0)]) ++ List.replicate (1 - (lg_sl ([.ref (ox 0)])).length) Slot.unset).toArray = ls at hl ⊢
  have hl : lv_has ls 1 [(0, .ref (ox 0))] := hl
  refine lv_aload_n hx hb dX4_remember_0 rfl (lv_at hl 0 rfl) ?_
  refine xGet C hN hP 0 (j := 4) rfl rfl iX4_remember_X4 (by decide) kX4_remember_30 rfl rfl dX4_remember_1 ?_
  refine lv_bipush (v := nI 6) hx hb dX4_remember_4 (by decide) ?_
  refine xIcmpLt C (tgt := 13) (by omega) (by decide) dX4_remember_6 (by decide) (fun h_6 => ?_) (fun h_6 => ?_)
  · skip
    skip
    rcases ca : Q (kt + 2) with _ | ⟨c, cf, cg, cU⟩
    · skip
      have ch : hs kt = none := by rw [hQ.2.2.1 _ (by omega), ca]; rfl
      refine lv_aload_n hx hb dX4_remember_13 rfl (lv_at hl 0 rfl) ?_
      refine xGet C hN hP 0 (j := 3) rfl rfl iX4_remember_X4 (by decide) kX4_remember_27 rfl rfl dX4_remember_14 ?_
      refine lv_aload_n hx hb dX4_remember_17 rfl (lv_at hl 0 rfl) ?_
      refine xGet C hN hP 0 (j := 4) rfl rfl iX4_remember_X4 (by decide) kX4_remember_30 rfl rfl dX4_remember_18 ?_
      refine lv_aload_n hx hb dX4_remember_21 rfl (lv_at hl 0 rfl) ?_
      refine lv_aload_n hx hb dX4_remember_22 rfl (lv_at hl 0 rfl) ?_
      refine xGet C hN hP 0 (j := 3) rfl rfl iX4_remember_X4 (by decide) kX4_remember_27 rfl rfl dX4_remember_23 ?_
      refine lv_aload_n hx hb dX4_remember_26 rfl (lv_at hl 0 rfl) ?_
      refine xGet C hN hP 0 (j := 4) rfl rfl iX4_remember_X4 (by decide) kX4_remember_30 rfl rfl dX4_remember_27 ?_
      refine xAald C hN hP 2 (j := kt) (v := .null) rfl (by omega) (by decide) (by rw [ch]; rfl) dX4_remember_30 ?_
      refine xWWq hS (va_runV (As := [.null]) (rest := [.int (nI kt), .ref (ox 2)]) C (c_X4_copyInto_n xl D kA ox os ob ot sl hs h tf tz f g V ln kt tl A) (cwV 1 hts gX4_remember_X4_copyInto rfl rfl rfl (by decide +kernel) ⟨Nat.le_of_ble_eq_true rfl, Nat.le_of_ble_eq_true rfl⟩) (xPreVw (q0 := 0) hN hP hD (xAll hS hA) rfl rfl rfl) rfl rfl hl.1 rfl (lv_room (Nat.le_of_ble_eq_true rfl)) dX4_remember_31 ⟨Nat.le_of_ble_eq_true rfl, Nat.le_of_ble_eq_true rfl⟩) (fun r_31 u_31 H locs hq_31 hP hD hS => ?_)
      obtain ⟨a_31, rfl, rfl⟩ := hq_31
      refine W.eq (g2 := F0 xm 34 ls [.ref (a_31 0), .int (nI kt), .ref (ox 2)]) rfl ?_
      have hP : va_P D vwCl ((clsN kA ox os ob ot sl hs h tf tz f g (V 0) (V 1) (V 2) ln kt ++ stW kA a_31 f (nI (V 0)) g (nI (V 1)) (nI (V 2))) ++ tl) H := hP
      have hD : va_D A ((clsN kA ox os ob ot sl hs h tf tz f g (V 0) (V 1) (V 2) ln kt ++ stW kA a_31 f (nI (V 0)) g (nI (V 1)) (nI (V 2))) ++ tl) := hD
      refine xAastR C hN hP hD hS 2 (j := kt) (r := (some (a_31 0))) rfl (fun v e => ⟨26, [.ref (a_31 1), .ref (a_31 8)], by cases e; rfl⟩) (by omega) (by decide) dX4_remember_34 (fun H locs hP hD hS => ?_)
      rw [show va_up (hs) (kt) (some (a_31 0)) = va_up (hs) (kt) (some (a_31 0)) from rfl] at hP hD
      have hP : va_P D vwCl ((clsN kA ox os ob ot sl (va_up (hs) (kt) (some (a_31 0))) h tf tz f g (V 0) (V 1) (V 2) ln kt ++ stW kA a_31 f (nI (V 0)) g (nI (V 1)) (nI (V 2))) ++ tl) H := hP
      have hD : va_D A ((clsN kA ox os ob ot sl (va_up (hs) (kt) (some (a_31 0))) h tf tz f g (V 0) (V 1) (V 2) ln kt ++ stW kA a_31 f (nI (V 0)) g (nI (V 1)) (nI (V 2))) ++ tl) := hD
      refine lv_aload_n hx hb dX4_remember_35 rfl (lv_at hl 0 rfl) ?_
      refine lv_dup hx hb dX4_remember_36 rfl ?_
      refine xGet C hN hP 0 (j := 4) rfl rfl iX4_remember_X4 (by decide) kX4_remember_30 rfl rfl dX4_remember_37 ?_
      refine lv_iconst (v := nI 1) hx hb dX4_remember_40 (by decide) ?_
      refine xIadd C dX4_remember_41 ?_
      refine xPut C hN hP hD hS 0 (j := 4) (v := .int (nI (kt + 1))) rfl rfl iX4_remember_X4 tyX4_ok nmX4 (by decide) kX4_remember_30 rfl rfl rfl rfl (Nat.le_of_ble_eq_true rfl) dX4_remember_42 (fun H locs hP hD hS => ?_)
      have hP : va_P D vwCl ((clsN kA ox os ob ot sl (va_up (hs) (kt) (some (a_31 0))) h tf tz f g (V 0) (V 1) (V 2) ln (kt + 1) ++ stW kA a_31 f (nI (V 0)) g (nI (V 1)) (nI (V 2))) ++ tl) H := hP
      have hD : va_D A ((clsN kA ox os ob ot sl (va_up (hs) (kt) (some (a_31 0))) h tf tz f g (V 0) (V 1) (V 2) ln (kt + 1) ++ stW kA a_31 f (nI (V 0)) g (nI (V 1)) (nI (V 2))) ++ tl) := hD
      exact xRetV hx hb hret (by rw [pn_lt h_6, ph_lt h_6]; exact ⟨va_up hs kt (some (a_31 0)), (stW kA a_31 f (nI (V 0)) g (nI (V 1)) (nI (V 2)) ++ tl), setQ Q (kt + 2) (some (a_31, f, g, V)), List.append_assoc (clsW kA ox os ob ot sl (va_up hs kt (some (a_31 0))) h tf tz f g V ln (kt + 1)) (stW kA a_31 f (nI (V 0)) g (nI (V 1)) (nI (V 2))) tl, QR_put hQ (by omega) hr (List.Perm.append_left _ ((hQ.1.trans (flat_at kA Q (j := kt + 2) (by omega))).trans (by rw [ca]; exact List.Perm.refl _)))⟩) hP hD hS dX4_remember_45 hlocks
    · skip
      have hP : va_P D vwCl ((clsN kA ox os ob ot sl hs h tf tz f g (V 0) (V 1) (V 2) ln kt ++ stW kA c cf (nI (cU 0)) cg (nI (cU 1)) (nI (cU 2))) ++ (flatQ kA (setQ Q (kt + 2) none))) _ := xPerP hP (focus (L := (clsN kA ox os ob ot sl hs h tf tz f g (V 0) (V 1) (V 2) ln kt)) hQ.1 (by omega) ca)
      have hD : va_D A ((clsN kA ox os ob ot sl hs h tf tz f g (V 0) (V 1) (V 2) ln kt ++ stW kA c cf (nI (cU 0)) cg (nI (cU 1)) (nI (cU 2))) ++ (flatQ kA (setQ Q (kt + 2) none))) := xPerD hD (focus (L := (clsN kA ox os ob ot sl hs h tf tz f g (V 0) (V 1) (V 2) ln kt)) hQ.1 (by omega) ca)
      have ch : hs kt = some (c 0) := by rw [hQ.2.2.1 _ (by omega), ca]; rfl
      refine lv_aload_n hx hb dX4_remember_13 rfl (lv_at hl 0 rfl) ?_
      refine xGet C hN hP 0 (j := 3) rfl rfl iX4_remember_X4 (by decide) kX4_remember_27 rfl rfl dX4_remember_14 ?_
      refine lv_aload_n hx hb dX4_remember_17 rfl (lv_at hl 0 rfl) ?_
      refine xGet C hN hP 0 (j := 4) rfl rfl iX4_remember_X4 (by decide) kX4_remember_30 rfl rfl dX4_remember_18 ?_
      refine lv_aload_n hx hb dX4_remember_21 rfl (lv_at hl 0 rfl) ?_
      refine lv_aload_n hx hb dX4_remember_22 rfl (lv_at hl 0 rfl) ?_
      refine xGet C hN hP 0 (j := 3) rfl rfl iX4_remember_X4 (by decide) kX4_remember_27 rfl rfl dX4_remember_23 ?_
      refine lv_aload_n hx hb dX4_remember_26 rfl (lv_at hl 0 rfl) ?_
      refine xGet C hN hP 0 (j := 4) rfl rfl iX4_remember_X4 (by decide) kX4_remember_30 rfl rfl dX4_remember_27 ?_
      refine xAald C hN hP 2 (j := kt) (v := .ref (c 0)) rfl (by omega) (by decide) (by rw [ch]; rfl) dX4_remember_30 ?_
      refine xWWq hS (va_runV (As := [.ref (c 0)]) (rest := [.int (nI kt), .ref (ox 2)]) C (c_X4_copyInto_s xl D kA ox os ob ot sl hs h tf tz f g V ln kt (flatQ kA (setQ Q (kt + 2) none)) c cf cg cU A) (cwV 1 hts gX4_remember_X4_copyInto rfl rfl rfl (by decide +kernel) ⟨Nat.le_of_ble_eq_true rfl, Nat.le_of_ble_eq_true rfl⟩) (xPreVw (q0 := 0) hN hP hD (xAll hS hA) rfl rfl rfl) rfl rfl hl.1 rfl (lv_room (Nat.le_of_ble_eq_true rfl)) dX4_remember_31 ⟨Nat.le_of_ble_eq_true rfl, Nat.le_of_ble_eq_true rfl⟩) (fun r_31 u_31 H locs hq_31 hP hD hS => ?_)
      obtain ⟨rfl, rfl⟩ := hq_31
      refine W.eq (g2 := F0 xm 34 ls [.ref (c 0), .int (nI kt), .ref (ox 2)]) rfl ?_
      have hP : va_P D vwCl ((clsN kA ox os ob ot sl hs h tf tz f g (V 0) (V 1) (V 2) ln kt ++ stW kA c f (nI (V 0)) g (nI (V 1)) (nI (V 2))) ++ (flatQ kA (setQ Q (kt + 2) none))) H := hP
      have hD : va_D A ((clsN kA ox os ob ot sl hs h tf tz f g (V 0) (V 1) (V 2) ln kt ++ stW kA c f (nI (V 0)) g (nI (V 1)) (nI (V 2))) ++ (flatQ kA (setQ Q (kt + 2) none))) := hD
      refine xAastR C hN hP hD hS 2 (j := kt) (r := (some (c 0))) rfl (fun v e => ⟨26, [.ref (c 1), .ref (c 8)], by cases e; rfl⟩) (by omega) (by decide) dX4_remember_34 (fun H locs hP hD hS => ?_)
      rw [show va_up (hs) (kt) (some (c 0)) = va_up (hs) (kt) (some (c 0)) from rfl] at hP hD
      have hP : va_P D vwCl ((clsN kA ox os ob ot sl (va_up (hs) (kt) (some (c 0))) h tf tz f g (V 0) (V 1) (V 2) ln kt ++ stW kA c f (nI (V 0)) g (nI (V 1)) (nI (V 2))) ++ (flatQ kA (setQ Q (kt + 2) none))) H := hP
      have hD : va_D A ((clsN kA ox os ob ot sl (va_up (hs) (kt) (some (c 0))) h tf tz f g (V 0) (V 1) (V 2) ln kt ++ stW kA c f (nI (V 0)) g (nI (V 1)) (nI (V 2))) ++ (flatQ kA (setQ Q (kt + 2) none))) := hD
      refine lv_aload_n hx hb dX4_remember_35 rfl (lv_at hl 0 rfl) ?_
      refine lv_dup hx hb dX4_remember_36 rfl ?_
      refine xGet C hN hP 0 (j := 4) rfl rfl iX4_remember_X4 (by decide) kX4_remember_30 rfl rfl dX4_remember_37 ?_
      refine lv_iconst (v := nI 1) hx hb dX4_remember_40 (by decide) ?_
      refine xIadd C dX4_remember_41 ?_
      refine xPut C hN hP hD hS 0 (j := 4) (v := .int (nI (kt + 1))) rfl rfl iX4_remember_X4 tyX4_ok nmX4 (by decide) kX4_remember_30 rfl rfl rfl rfl (Nat.le_of_ble_eq_true rfl) dX4_remember_42 (fun H locs hP hD hS => ?_)
      have hP : va_P D vwCl ((clsN kA ox os ob ot sl (va_up (hs) (kt) (some (c 0))) h tf tz f g (V 0) (V 1) (V 2) ln (kt + 1) ++ stW kA c f (nI (V 0)) g (nI (V 1)) (nI (V 2))) ++ (flatQ kA (setQ Q (kt + 2) none))) H := hP
      have hD : va_D A ((clsN kA ox os ob ot sl (va_up (hs) (kt) (some (c 0))) h tf tz f g (V 0) (V 1) (V 2) ln (kt + 1) ++ stW kA c f (nI (V 0)) g (nI (V 1)) (nI (V 2))) ++ (flatQ kA (setQ Q (kt + 2) none))) := hD
      refine W.widen (k := 14) (n := 212) (Nat.le_of_ble_eq_true rfl) (Nat.le_of_ble_eq_true rfl) ?_
      exact xRetV hx hb hret (by rw [pn_lt h_6, ph_lt h_6]; exact ⟨va_up hs kt (some (c 0)), (stW kA c f (nI (V 0)) g (nI (V 1)) (nI (V 2)) ++ (flatQ kA (setQ Q (kt + 2) none))), setQ Q (kt + 2) (some (c, f, g, V)), List.append_assoc (clsW kA ox os ob ot sl (va_up hs kt (some (c 0))) h tf tz f g V ln (kt + 1)) (stW kA c f (nI (V 0)) g (nI (V 1)) (nI (V 2))) (flatQ kA (setQ Q (kt + 2) none)), QR_put hQ (by omega) hr (List.Perm.refl _)⟩) hP hD hS dX4_remember_45 hlocks
  · skip
    have hk6 : kt = 6 := by omega
    have hQ6 : QR kA sl hs tl 6 HH HB LL Q := by rw [← hk6]; exact hQ
    obtain ⟨c, cf, cg, c_1, c_2⟩ := hQ6.2.2.2.2.2 0 (by omega)
    have h0 : hs 0 = some (c 0) := by rw [hQ6.2.2.1 0 (by omega), c_1]; rfl
    have hv : ∀ i, i < 6 → ∀ v, hs i = some v → ∃ (k : Nat) (vs : List Value), tl[k]? = some (v, .inr (3, vs)) := fun i hi v e => st_in hQ6.1 (show i + 2 < 8 by omega) (by rw [← hQ6.2.2.1 i hi, e])
    refine lv_aload_n hx hb dX4_remember_9 rfl (lv_at hl 0 rfl) ?_
    refine xWWv hS (va_runV (As := []) (rest := []) C (c_X4_dropOldest xl D kA ox os ob ot sl hs h tf tz f g V ln kt tl (c 0) h0 hv A) (cwV 0 hts gX4_remember_X4_dropOldest rfl rfl rfl (by decide +kernel) ⟨Nat.le_of_ble_eq_true rfl, Nat.le_of_ble_eq_true rfl⟩) (xPreVw (q0 := 0) hN hP hD (xAll hS hA) rfl rfl rfl) rfl rfl hl.1 rfl (lv_room (Nat.le_of_ble_eq_true rfl)) dX4_remember_10 ⟨Nat.le_of_ble_eq_true rfl, Nat.le_of_ble_eq_true rfl⟩) (fun u_10 H locs hq_10 hP hD hS => ?_)
    subst hq_10
    have hP : va_P D vwCl ((clsN kA ox os ob ot sl (rotH hs) h tf tz f g (V 0) (V 1) (V 2) ln 5) ++ tl) H := hP
    have hD : va_D A ((clsN kA ox os ob ot sl (rotH hs) h tf tz f g (V 0) (V 1) (V 2) ln 5) ++ tl) := hD
    have hQ5 := QR_rot hQ6
    have ca : rotQ Q (5 + 2) = some (c, cf, cg, HH 0) := c_1
    have hP : va_P D vwCl ((clsN kA ox os ob ot sl (rotH hs) h tf tz f g (V 0) (V 1) (V 2) ln 5 ++ stW kA c cf (nI (HH 0 0)) cg (nI (HH 0 1)) (nI (HH 0 2))) ++ (flatQ kA (setQ (rotQ Q) (5 + 2) none))) _ := xPerP hP (focus (L := (clsN kA ox os ob ot sl (rotH hs) h tf tz f g (V 0) (V 1) (V 2) ln 5)) hQ5.1 (by omega) ca)
    have hD : va_D A ((clsN kA ox os ob ot sl (rotH hs) h tf tz f g (V 0) (V 1) (V 2) ln 5 ++ stW kA c cf (nI (HH 0 0)) cg (nI (HH 0 1)) (nI (HH 0 2))) ++ (flatQ kA (setQ (rotQ Q) (5 + 2) none))) := xPerD hD (focus (L := (clsN kA ox os ob ot sl (rotH hs) h tf tz f g (V 0) (V 1) (V 2) ln 5)) hQ5.1 (by omega) ca)
    have ch : rotH hs 5 = some (c 0) := by rw [hQ5.2.2.1 _ (by omega), ca]; rfl
    refine lv_aload_n hx hb dX4_remember_13 rfl (lv_at hl 0 rfl) ?_
    refine xGet C hN hP 0 (j := 3) rfl rfl iX4_remember_X4 (by decide) kX4_remember_27 rfl rfl dX4_remember_14 ?_
    refine lv_aload_n hx hb dX4_remember_17 rfl (lv_at hl 0 rfl) ?_
    refine xGet C hN hP 0 (j := 4) rfl rfl iX4_remember_X4 (by decide) kX4_remember_30 rfl rfl dX4_remember_18 ?_
    refine lv_aload_n hx hb dX4_remember_21 rfl (lv_at hl 0 rfl) ?_
    refine lv_aload_n hx hb dX4_remember_22 rfl (lv_at hl 0 rfl) ?_
    refine xGet C hN hP 0 (j := 3) rfl rfl iX4_remember_X4 (by decide) kX4_remember_27 rfl rfl dX4_remember_23 ?_
    refine lv_aload_n hx hb dX4_remember_26 rfl (lv_at hl 0 rfl) ?_
    refine xGet C hN hP 0 (j := 4) rfl rfl iX4_remember_X4 (by decide) kX4_remember_30 rfl rfl dX4_remember_27 ?_
    refine xAald C hN hP 2 (j := 5) (v := .ref (c 0)) rfl (by omega) (by decide) (by rw [ch]; rfl) dX4_remember_30 ?_
    refine xWWq hS (va_runV (As := [.ref (c 0)]) (rest := [.int (nI 5), .ref (ox 2)]) C (c_X4_copyInto_s xl D kA ox os ob ot sl (rotH hs) h tf tz f g V ln 5 (flatQ kA (setQ (rotQ Q) (5 + 2) none)) c cf cg (HH 0) A) (cwV 1 hts gX4_remember_X4_copyInto rfl rfl rfl (by decide +kernel) ⟨Nat.le_of_ble_eq_true rfl, Nat.le_of_ble_eq_true rfl⟩) (xPreVw (q0 := 0) hN hP hD (xAll hS hA) rfl rfl rfl) rfl rfl hl.1 rfl (lv_room (Nat.le_of_ble_eq_true rfl)) dX4_remember_31 ⟨Nat.le_of_ble_eq_true rfl, Nat.le_of_ble_eq_true rfl⟩) (fun r_31 u_31 H locs hq_31 hP hD hS => ?_)
    obtain ⟨rfl, rfl⟩ := hq_31
    refine W.eq (g2 := F0 xm 34 ls [.ref (c 0), .int (nI 5), .ref (ox 2)]) rfl ?_
    have hP : va_P D vwCl ((clsN kA ox os ob ot sl (rotH hs) h tf tz f g (V 0) (V 1) (V 2) ln 5 ++ stW kA c f (nI (V 0)) g (nI (V 1)) (nI (V 2))) ++ (flatQ kA (setQ (rotQ Q) (5 + 2) none))) H := hP
    have hD : va_D A ((clsN kA ox os ob ot sl (rotH hs) h tf tz f g (V 0) (V 1) (V 2) ln 5 ++ stW kA c f (nI (V 0)) g (nI (V 1)) (nI (V 2))) ++ (flatQ kA (setQ (rotQ Q) (5 + 2) none))) := hD
    refine xAastR C hN hP hD hS 2 (j := 5) (r := (some (c 0))) rfl (fun v e => ⟨26, [.ref (c 1), .ref (c 8)], by cases e; rfl⟩) (by omega) (by decide) dX4_remember_34 (fun H locs hP hD hS => ?_)
    rw [show va_up (rotH hs) (5) (some (c 0)) = va_up (rotH hs) (5) (some (c 0)) from rfl] at hP hD
    have hP : va_P D vwCl ((clsN kA ox os ob ot sl (va_up (rotH hs) (5) (some (c 0))) h tf tz f g (V 0) (V 1) (V 2) ln 5 ++ stW kA c f (nI (V 0)) g (nI (V 1)) (nI (V 2))) ++ (flatQ kA (setQ (rotQ Q) (5 + 2) none))) H := hP
    have hD : va_D A ((clsN kA ox os ob ot sl (va_up (rotH hs) (5) (some (c 0))) h tf tz f g (V 0) (V 1) (V 2) ln 5 ++ stW kA c f (nI (V 0)) g (nI (V 1)) (nI (V 2))) ++ (flatQ kA (setQ (rotQ Q) (5 + 2) none))) := hD
    refine lv_aload_n hx hb dX4_remember_35 rfl (lv_at hl 0 rfl) ?_
    refine lv_dup hx hb dX4_remember_36 rfl ?_
    refine xGet C hN hP 0 (j := 4) rfl rfl iX4_remember_X4 (by decide) kX4_remember_30 rfl rfl dX4_remember_37 ?_
    refine lv_iconst (v := nI 1) hx hb dX4_remember_40 (by decide) ?_
    refine xIadd C dX4_remember_41 ?_
    refine xPut C hN hP hD hS 0 (j := 4) (v := .int (nI (5 + 1))) rfl rfl iX4_remember_X4 tyX4_ok nmX4 (by decide) kX4_remember_30 rfl rfl rfl rfl (Nat.le_of_ble_eq_true rfl) dX4_remember_42 (fun H locs hP hD hS => ?_)
    have hP : va_P D vwCl ((clsN kA ox os ob ot sl (va_up (rotH hs) (5) (some (c 0))) h tf tz f g (V 0) (V 1) (V 2) ln (5 + 1) ++ stW kA c f (nI (V 0)) g (nI (V 1)) (nI (V 2))) ++ (flatQ kA (setQ (rotQ Q) (5 + 2) none))) H := hP
    have hD : va_D A ((clsN kA ox os ob ot sl (va_up (rotH hs) (5) (some (c 0))) h tf tz f g (V 0) (V 1) (V 2) ln (5 + 1) ++ stW kA c f (nI (V 0)) g (nI (V 1)) (nI (V 2))) ++ (flatQ kA (setQ (rotQ Q) (5 + 2) none))) := hD
    refine W.widen (k := 14) (n := 212) (Nat.le_of_ble_eq_true rfl) (Nat.le_of_ble_eq_true rfl) ?_
    exact xRetV hx hb hret (by rw [pn_6 hk6, ph_6 hk6]; exact ⟨va_up (rotH hs) 5 (some (c 0)), (stW kA c f (nI (V 0)) g (nI (V 1)) (nI (V 2)) ++ (flatQ kA (setQ (rotQ Q) (5 + 2) none))), setQ (rotQ Q) (5 + 2) (some (c, f, g, V)), List.append_assoc (clsW kA ox os ob ot sl (va_up (rotH hs) 5 (some (c 0))) h tf tz f g V ln (5 + 1)) (stW kA c f (nI (V 0)) g (nI (V 1)) (nI (V 2))) (flatQ kA (setQ (rotQ Q) (5 + 2) none)), QR_put hQ5 (by omega) hr (List.Perm.refl _)⟩) hP hD hS dX4_remember_45 hlocks
