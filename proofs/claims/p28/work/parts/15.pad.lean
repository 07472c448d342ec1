set_option maxHeartbeats 8000000 in
set_option maxRecDepth 100000 in
theorem c_X1_init (xl : Launch) (D : va_G) (kA : Nat → ClassId) (q : Nat) (A : Nat → Prop) : Met xl yX1_init wsX1_init { frames := 1, cells := 1, slots := 60, locals := 40 } (va_Pc [.ref q] (xPw D kA A [(q, .inr (1, [.null, .int 0]))])) (xQv D A (fun u => ∃ b : Nat → Nat, b 0 = q ∧ u = padW kA b (fun _ => 0) 0)) 1 60 A := by
  refine Met.ofW (cc := cX1_init) (maxL := 1) (ret := none) (by decide) rfl ?_
  intro xp xe xs xm args xbe xme xc s₁ B hml hv
  obtain ⟨rfl, hP, hN, hD, hA⟩ := hv
  have hret := B.returns
  have C : CallFix xp xm xc cX1_init 1 xs ([.ref q] : List Value).toArray wsX1_init RX1 := ⟨B.exec, B.bytes, hml, findClass_of_methodNamed B.named, atoms_spec (ws := wsX1_init) B.pre⟩
  have hlocks := B.notSynchronized
  have hin : xme.name = "<init>" := (name_of_methodNamed B.named B.method).1
  obtain ⟨hx, hb, _, hown, hts⟩ := id C
  have hS : va_S A xs.heap xs.heap [] := va_S.rf
  have hl := lv_entry ([.ref q]) (n := 1) (Nat.le_of_ble_eq_true rfl)
  rw [lg_entry_eq]
  generalize (lg_sl ([.ref q]) ++ List.replicate (1 - (lg_sl ([.ref q])).length) Slot.unset).toArray = ls at hl ⊢
  have hl : lv_has ls 1 [(0, .ref q)] := hl
  refine lv_aload_n hx hb dX1_init_0 rfl (lv_at hl 0 rfl) ?_
  refine W.objInit hx hb hown (hts _ (List.mem_of_getElem? (i := 1) rfl)) (hts _ (List.mem_of_getElem? (i := 2) rfl)) (hts _ (List.mem_of_getElem? (i := 3) rfl)) rfl (by rw [hml]; exact hl.1) rfl dX1_init_1 (Nat.le_of_ble_eq_true rfl) (Nat.le_of_ble_eq_true rfl) ?_
  refine W.eq (g2 := F0 xm 4 ls []) rfl ?_
  refine lv_aload_n hx hb dX1_init_4 rfl (lv_at hl 0 rfl) ?_
  refine lv_bipush (v := nI 60) hx hb dX1_init_5 (by decide) ?_
  refine xNewa C hN hP hD hS hA 1 (N := 60) (ty := .char) rfl rfl (fun _ _ h => h) (List.mem_of_getElem? (i := 4) rfl) rfl (by decide) (by decide) rfl (Nat.le_of_ble_eq_true rfl) (Nat.le_of_ble_eq_true rfl) dX1_init_7 (fun q_7 H hP hD hS => ?_)
  have hP : va_P D vwCl [(q, .inr (1, [.null, .int 0])), (q_7, .inl (kA 1, 60, .inl (fun _ => 0)))] H := hP
  have hD : va_D A [(q, .inr (1, [.null, .int 0])), (q_7, .inl (kA 1, 60, .inl (fun _ => 0)))] := hD
  refine xPutF C hN hP hD hS hin 0 (j := 0) (v := .ref q_7) rfl rfl iX1_init_X1 tyX1_ok nmX1 (by decide) kX1_init_9 rfl rfl rfl rfl rfl (Nat.le_of_ble_eq_true rfl) dX1_init_9 (fun H locs hP hD hS => ?_)
  have hP : va_P D vwCl [(q, .inr (1, [.ref q_7, .int 0])), (q_7, .inl (kA 1, 60, .inl (fun _ => 0)))] H := hP
  have hD : va_D A [(q, .inr (1, [.ref q_7, .int 0])), (q_7, .inl (kA 1, 60, .inl (fun _ => 0)))] := hD
  refine lv_aload_n hx hb dX1_init_12 rfl (lv_at hl 0 rfl) ?_
  refine lv_iconst (v := nI 0) hx hb dX1_init_13 (by decide) ?_
  refine xPut C hN hP hD hS 0 (j := 1) (v := .int (nI 0)) rfl rfl iX1_init_X1 tyX1_ok nmX1 (by decide) kX1_init_15 rfl rfl rfl rfl (Nat.le_of_ble_eq_true rfl) dX1_init_14 (fun H locs hP hD hS => ?_)
  have hP : va_P D vwCl [(q, .inr (1, [.ref q_7, .int (nI 0)])), (q_7, .inl (kA 1, 60, .inl (fun _ => 0)))] H := hP
  have hD : va_D A [(q, .inr (1, [.ref q_7, .int (nI 0)])), (q_7, .inl (kA 1, 60, .inl (fun _ => 0)))] := hD
  exact xRetV hx hb hret (⟨ad7 q q_7 q_7 q_7 q_7 q_7 q_7, rfl, rfl⟩) hP hD hS dX1_init_17 hlocks
