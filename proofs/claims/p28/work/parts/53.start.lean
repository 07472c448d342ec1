theorem arr_int {s : State} {A : Array Value} (h : (Cond.arrayClass .int).before A s = true) : ∃ cA, ArrOfT s cA .int ∧ va_RA s cA .int := by
  obtain ⟨cA, kA, comp, h1, h2, h3⟩ := Cond.arrayClass_spec h
  exact ⟨cA, fun n z => ⟨fun k h => (by cases h), kA, h2, comp, h3⟩, h1⟩
theorem arr_char {s : State} {A : Array Value} (h : (Cond.arrayClass .char).before A s = true) : ∃ cA, ArrOfT s cA .char ∧ va_RA s cA .char := by
  obtain ⟨cA, kA, comp, h1, h2, h3⟩ := Cond.arrayClass_spec h
  exact ⟨cA, fun n z => ⟨fun k h => (by cases h), kA, h2, comp, h3⟩, h1⟩
theorem arr_st {s : State} {A : Array Value} (h : (Cond.arrayOver (.object RX3)).before A s = true) : ∃ cA, ArrOfT s cA (.object RX3) ∧ va_RA s cA (.object RX3) := by
  obtain ⟨comp, c, k, h1, h2, h3, h4, h5⟩ := Cond.arrayOver_spec h
  exact ⟨c, fun n z => ⟨fun k h => (by cases h), k, h3, comp, h4⟩, k, comp, h3, h4, h1, h5⟩
set_option maxRecDepth 20000 in
theorem kn0 {s : State} {A : Array Value} (hts : ∀ w ∈ lw_tbl, w.before A s = true) : ∃ (D : va_G) (kA : Nat → ClassId), KN D kA s := by
  obtain ⟨c0, i0, g0⟩ := u_known (C := RX0) (T := TX0) (N := 7) (n := 7) hts lin_wsX00 (hts (.instantiable RX0 7) (by decide +kernel))
  obtain ⟨c1, i1, g1⟩ := u_known (C := RX1) (T := TX1) (N := 2) (n := 2) hts lin_wsX10 (hts (.instantiable RX1 2) (by decide +kernel))
  obtain ⟨c2, i2, g2⟩ := u_known (C := RX2) (T := TX2) (N := 7) (n := 7) hts lin_wsX20 (hts (.instantiable RX2 7) (by decide +kernel))
  obtain ⟨c3, i3, g3⟩ := u_known (C := RX3) (T := TX3) (N := 2) (n := 2) hts lin_wsX30 (hts (.instantiable RX3 2) (by decide +kernel))
  obtain ⟨c4, i4, g4⟩ := u_known (C := RX4) (T := TX4) (N := 6) (n := 6) hts lin_wsX40 (hts (.instantiable RX4 6) (by decide +kernel))
  obtain ⟨a0, b0, d0⟩ := arr_int (hts (.arrayClass .int) (by decide +kernel))
  obtain ⟨a1, b1, d1⟩ := arr_char (hts (.arrayClass .char) (by decide +kernel))
  have hao := hts (.arrayOver (.object RX3)) (by decide +kernel)
  obtain ⟨a3, b3, d3⟩ := arr_st hao
  refine ⟨(fun k => match k with | 0 => c0 | 1 => c1 | 2 => c2 | 3 => c3 | _ => c4, fun k => match k with | 0 => i0 | 1 => i1 | 2 => i2 | 3 => i3 | _ => i4), fun k => match k with | 0 => a0 | 1 => a1 | 2 => a0 | _ => a3, ⟨fun k q hq => ?_, fun k q hq => ?_⟩, ?_⟩
  · match k, hq with
    | 0, hq => cases hq; exact g0
    | 1, hq => cases hq; exact g1
    | 2, hq => cases hq; exact g2
    | 3, hq => cases hq; exact g3
    | 4, hq => cases hq; exact g4
    | k + 5, hq => simp at hq
  · match k, hq with
    | 0, hq => cases hq; exact ⟨b0, d0⟩
    | 1, hq => cases hq; exact ⟨b1, d1⟩
    | 2, hq => cases hq; exact ⟨b0, d0⟩
    | 3, hq => cases hq; exact ⟨b3, d3⟩
    | k + 4, hq => simp at hq
  · exact ⟨va_Nw.of rfl (hts _ (by decide +kernel)), va_Nw.of rfl (hts _ (by decide +kernel)), va_Nw.of rfl (hts _ (by decide +kernel)), va_Nw.of rfl (hts _ (by decide +kernel)), va_Nw.of rfl (hts _ (by decide +kernel)), va_Nw.of rfl (hts _ (by decide +kernel)), va_Nw.of rfl (hts _ (by decide +kernel)), va_Nw.of rfl (hts _ (by decide +kernel)), va_Nw.of rfl (hts _ (by decide +kernel)), va_Nw.of rfl (hts _ (by decide +kernel)), va_Nw.of rfl (hts _ (by decide +kernel)), va_Nw.of rfl (hts _ (by decide +kernel)), va_AO.of hao⟩
theorem li0 : LI (fun _ => 0) (fun _ => 0) 0 := ⟨nI_0.symm, nI_0.symm, Nat.le_refl _, Nat.le_refl _, Nat.le_refl _⟩
set_option maxHeartbeats 8000000 in
set_option maxRecDepth 100000 in
theorem law_start {xp : Program} {xe : Env} {xs : State} {xm : MethodId} {xbe : List Frame} {xme : Method} {xc : Code} (xl : Launch) {bs L : Nat} {sc : Nat → Int32} (hLL : L ≤ 260) (C0 : lw_At xp xs xm xme xc bs L sc) : W xp xl xe room_1 xs xm #[Value.ref bs] xbe xme xc xs.heap [] 0 0 (lw_Z xbe #[Value.ref bs] xs) (entryFrame xm ([Value.ref bs] : List Value).toArray 6) := by
  obtain ⟨hx, hb, hr, hml, hown, hts0, hX, hbl, hlocks, hgv⟩ := id C0
  have hts : ∀ w ∈ wsL_law, w.before #[Value.ref bs] xs = true := fun w hw => hts0 w (wsL_law_in w hw)
  have C : CallFix xp xm xc cL_law 6 xs #[Value.ref bs] wsL_law RL := ⟨hx, hb, hml, hown, hts⟩
  obtain ⟨D, kA, hN⟩ := kn0 hts0
  have hA : ∀ q : Nat, xs.heap.size ≤ q → (fun q : Nat => xs.heap.size ≤ q) q := fun _ h => h
  have hS : va_S (fun q : Nat => xs.heap.size ≤ q) xs.heap xs.heap [] := va_S.rf
  have hP : va_P D vwCl [] xs.heap := fun k q h => by simp at h
  have hD : va_D (fun q : Nat => xs.heap.size ≤ q) [] := ⟨fun i j p q h => by simp at h, fun k q h => by simp at h⟩
  have hl := lv_entry ([.ref bs]) (n := 6) (Nat.le_of_ble_eq_true rfl)
  rw [lg_entry_eq]
  generalize (lg_sl ([.ref bs]) ++ List.replicate (6 - (lg_sl ([.ref bs])).length) Slot.unset).toArray = ls at hl ⊢
  have hl : lv_has ls 6 [(0, .ref bs)] := hl
  refine xNew C hN hP hD hS hA (ci := 4) (fs := [.null, .null, .null, .null, .int 0, .null]) rfl inlX4 tyX4_ok (List.mem_of_getElem? (i := 0) rfl) (List.mem_of_getElem? (i := 1) rfl) (List.mem_of_getElem? (i := 2) rfl) (fun j hj => by rcases (show j = 0 ∨ j = 1 ∨ j = 2 ∨ j = 3 ∨ j = 4 ∨ j = 5 by omega) with rfl | rfl | rfl | rfl | rfl | rfl <;> rfl) (Nat.le_of_ble_eq_true rfl) (Nat.le_of_ble_eq_true rfl) dL_law_0 (fun q0 H hP hD hS => ?_)
  refine lv_dup hx hb dL_law_3 rfl ?_
  refine xLaw1v (u1 := [(q0, .inr (4, [.null, .null, .null, .null, .int 0, .null]))]) (u2 := []) hP hD hS hA (va_runI (As := []) (rest := [.ref q0]) C (c_X4_init xl D kA q0 _) (cwI 0 hts gL_law_X4_init rfl rfl rfl (hts (.initialized RX4) (List.mem_of_getElem? (i := 2) rfl)) (hts (.methodLink RL 94 yX4_init) (by decide +kernel)) (hts (.instanceMethod yX4_init) (by decide +kernel)) rfl (by decide +kernel) ⟨Nat.le_of_ble_eq_true rfl, Nat.le_of_ble_eq_true rfl⟩) (xPreSw hN (va_P1 hP) (va_Da hD) (fun _ h => Or.inr h)) rfl rfl hl.1 rfl (lv_room (Nat.le_of_ble_eq_true rfl)) dL_law_4 ⟨Nat.le_of_ble_eq_true rfl, Nat.le_of_ble_eq_true rfl⟩) (fun u H locs hq hP9 hD9 hS9 => ?_)
  obtain ⟨ox, os, ob, ot, e0, e1⟩ := hq
  subst e0
  have h1 := cls0 kA ox os ob ot
  rw [← e1] at h1
  have hW : WX D kA (fun q : Nat => xs.heap.size ≤ q) xs.heap ox os ob ot sig0 [] H locs := ⟨u, h1, hP9, hD9, hS9⟩
  refine lv_astore_n (lv' := [(1, .ref (ox 0)), (0, .ref bs)]) hx hb dL_law_7 rfl hl (by decide) rfl (fun ls hl => ?_)
  refine lv_iconst (v := nI 2) hx hb dL_law_8 (by decide) ?_
  refine wNewa C hN hW hA (N := 2) (by decide +kernel) (by decide) (Nat.le_of_ble_eq_true rfl) (Nat.le_of_ble_eq_true rfl) dL_law_9 (fun dd H hW => ?_)
  have hW : WX D kA (fun q : Nat => xs.heap.size ≤ q) xs.heap ox os ob ot (fun _ => 0, 0, fun _ => 0, 0, fun _ _ => 0, fun _ => false, fun _ _ => 0) [(dd, .inl (kA 0, 2, .inl (fun _ => 0)))] H locs := hW
  refine lv_astore_n (lv' := [(2, .ref dd), (1, .ref (ox 0)), (0, .ref bs)]) hx hb dL_law_11 rfl hl (by decide) rfl (fun ls hl => ?_)
  refine lv_aload_n hx hb dL_law_12 rfl (lv_at hl 1 rfl) ?_
  refine lv_aload_n hx hb dL_law_13 rfl (lv_at hl 0 rfl) ?_
  refine lv_iconst (v := nI 1) hx hb dL_law_14 (by decide) ?_
  refine qS C hN hA (As := [.ref (ox 0), .ref dd, .int (nI 1)]) (rest := []) (Xc := [(dd, .inl (kA 0, 2, .inl (fun _ => 0)))]) (Xr := []) (fun u A1 h => c_L_holds xl D kA ox os ob ot (fun _ => 0) 0 (fun _ => 0) 0 (fun _ _ => 0) (fun _ => false) (fun _ _ => 0) inv0 dd (fun _ => 0) 0 li0 (by decide) (nI 1) u h A1) (va_cwS 3 hts gL_law_L_holds rfl rfl rfl (by decide +kernel) ⟨Nat.le_of_ble_eq_true rfl, Nat.le_of_ble_eq_true rfl⟩) hW (List.Perm.refl _) rfl hl.1 rfl (Nat.le_of_ble_eq_true rfl) dL_law_15 ⟨Nat.le_of_ble_eq_true rfl, Nat.le_of_ble_eq_true rfl⟩ (fun r_15 S2 X2 H locs hR hW => ?_)
  obtain ⟨rfl, rfl, rfl⟩ := hR
  have hW : WX D kA (fun q : Nat => xs.heap.size ≤ q) xs.heap ox os ob ot (fun _ => 0, 0, fun _ => 0, 0, fun _ _ => 0, fun _ => false, fun _ _ => 0) [(dd, .inl (kA 0, 2, .inl (fun _ => 0)))] H locs := hW
  refine xIfEq C (tgt := 34) (a := 1) (by decide) dL_law_18 (by decide) (fun h => absurd h (by decide)) (fun _ => ?_)
  refine lv_aload_n hx hb dL_law_21 rfl (lv_at hl 1 rfl) ?_
  refine qVr C hN hA (S := (fun _ => 0, 0, fun _ => 0, 0, fun _ _ => 0, fun _ => false, fun _ _ => 0)) (S2 := (fun _ => 0, 0, fun _ => 0, 0, fun _ _ => 0, fun _ => false, fun _ _ => 0)) (v := -5) (As := []) (rest := []) (fun u A1 h => k4_undo xl D kA ox os ob ot (fun _ => 0, 0, fun _ => 0, 0, fun _ _ => 0, fun _ => false, fun _ _ => 0) u inv0 h A1) (e_undo0 rfl) (cwV 0 hts gL_law_X4_undo rfl rfl rfl (by decide +kernel) ⟨Nat.le_of_ble_eq_true rfl, Nat.le_of_ble_eq_true rfl⟩) hW rfl hl.1 rfl (Nat.le_of_ble_eq_true rfl) dL_law_22 ⟨Nat.le_of_ble_eq_true rfl, Nat.le_of_ble_eq_true rfl⟩ (fun H locs hW => ?_)
  refine lv_bipush (v := -5) hx hb dL_law_25 (by decide) ?_
  refine lv_icmp_ne (tgt := 34) hx hb dL_law_27 (by decide) (fun h => absurd rfl h) (fun _ => ?_)
  refine lv_iconst (v := nI 1) hx hb dL_law_30 (by decide) ?_
  refine lv_goto (tgt := 35) hx hb dL_law_31 (by decide) ?_
  refine lv_istore_n (lv' := [(3, .int (nI 1)), (2, .ref dd), (1, .ref (ox 0)), (0, .ref bs)]) hx hb dL_law_35 rfl hl (by decide) rfl (fun ls hl => ?_)
  refine W.widen (k := 400) (n := 4000) (Nat.le_of_ble_eq_true rfl) (Nat.le_of_ble_eq_true rfl) ?_
  exact law_run xl hLL C0 hN hA (fun _ h => h) inv0 li0 hW (lv_sub hl [3, 2, 1, 0] rfl)
