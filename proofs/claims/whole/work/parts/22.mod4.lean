theorem xCellD {A : Nat → Prop} {ws : va_W} {p a n : Nat} {cA : ClassId} {f g : Nat → Int32} (hD : va_D A ws) (he : ws[p]? = some (a, .inl (cA, n, .inl f))) : va_D A (ws.set p (a, .inl (cA, n, .inl g))) := by
  have hl := (List.getElem?_eq_some_iff.mp he).1
  have key : ∀ (i : Nat) (q : Nat × va_E), (ws.set p (a, .inl (cA, n, .inl g)))[i]? = some q → ∃ q', ws[i]? = some q' ∧ q'.1 = q.1 := by
    intro i q h
    by_cases e : p = i
    · subst e
      rw [List.getElem?_set_self hl] at h
      cases h
      exact ⟨_, he, rfl⟩
    · rw [List.getElem?_set_ne e] at h
      exact ⟨q, h, rfl⟩
  refine ⟨fun i j x y hx hy hxy => ?_, fun k q h => ?_⟩
  · obtain ⟨x', h1, e1⟩ := key i x hx
    obtain ⟨y', h2, e2⟩ := key j y hy
    exact hD.1 i j x' y' h1 h2 (by rw [e1, e2, hxy])
  · obtain ⟨q', h1, e1⟩ := key k q h
    rw [← e1]; exact hD.2 k q' h1
theorem sg8_le (p : Nat → Bool) : cntN 8 p ≤ 8 := by
  have : cntN 8 p ≤ 8 * 1 := sumN_le (fun j _ => by split <;> omega)
  omega
theorem sg8_0 (X : Nat) : ¬ cntN 8 (fun j => !endB X j) = 0 := by
  have := cntN_split 1 (fun j => !endB X j) 7
  have e : cntN 1 (fun j => !endB X j) = 1 := rfl
  rw [e] at this
  intro q
  rw [show (8 : Nat) = 1 + 7 from rfl, this] at q
  omega
set_option maxHeartbeats 8000000 in
set_option maxRecDepth 100000 in
theorem c_X5_tidy (xl : Launch) (D : va_G) (kA : Nat → ClassId) (a : Nat → Nat) (V : Nat → Nat) (hs sl sv pd sg : Nat → Int32) (kt ln td : Nat) (P : Nat → Nat) (HH : Nat → Nat → Nat) (HB : Nat → Bool) (LL : Nat → Nat → Nat) (hI : InvS (V, ln, P, kt, HH, HB, LL)) (hH : relH hs kt HH) (hpd : relP pd ln P) (hsv : relS sv sl HB LL) (A : Nat → Prop) : Met xl yX5_tidy wsX5_tidy { frames := 8, cells := 0, slots := 0, locals := 187 } (va_Pc [.ref (a 0)] (xPw D kA A [((a 0), .inr (5, [.ref (a 1), .ref (a 2), .int (nI kt), .ref (a 3), .ref (a 4), .ref (a 5), .int (nI ln), .ref (a 6), .int (nI td)])), ((a 1), .inl (kA 0, 169, .inl (vI V))), ((a 2), .inl (kA 0, 1014, .inl (hs))), ((a 3), .inl (kA 0, 338, .inl (sl))), ((a 4), .inl (kA 2, 2, .inl (sv))), ((a 5), .inl (kA 0, 60, .inl (pd))), ((a 6), .inl (kA 0, 5, .inl (sg)))])) (xQi D A (fun r u => r = (opTidy (V, ln, P, kt, HH, HB, LL) ).1 ∧ ModR kA a (opTidy (V, ln, P, kt, HH, HB, LL) ).2 u)) 0 0 A := by
  refine Met.ofW (cc := cX5_tidy) (maxL := 3) (ret := (some .int)) (by decide) rfl ?_
  intro xp xe xs xm args xbe xme xc s₁ B hml hv
  obtain ⟨rfl, hP, hN, hD, hA⟩ := hv
  have hret := B.returns
  have C : CallFix xp xm xc cX5_tidy 3 xs ([.ref (a 0)] : List Value).toArray wsX5_tidy RX5 := ⟨B.exec, B.bytes, hml, findClass_of_methodNamed B.named, atoms_spec (ws := wsX5_tidy) B.pre⟩
  have hlocks := B.notSynchronized
  obtain ⟨hx, hb, _, hown, hts⟩ := id C
  have hS : va_S A xs.heap xs.heap [] := va_S.rf
  have hl := lv_entry ([.ref (a 0)]) (n := 3) (Nat.le_of_ble_eq_true rfl)
  rw [lg_entry_eq]
  generalize (lg_sl ([.ref (a 0)]) ++ List.replicate (3 - (lg_sl ([.ref (a 0)])).length) Slot.unset).toArray = ls at hl ⊢
  have hl : lv_has ls 3 [(0, .ref (a 0))] := hl
  obtain ⟨⟨hV, hW, hM, hG⟩, hm, hwP, hk, hIH, hIL⟩ := hI
  refine lv_aload_n hx hb dX5_tidy_0 rfl (lv_at hl 0 rfl) ?_
  refine xWWv hS (va_runV (As := []) (rest := []) C (c_X5_record xl D kA a V hs sl sv pd sg kt ln td HH hH hk A) (cwV 0 hts gX5_tidy_X5_record rfl rfl rfl (by decide +kernel) ⟨Nat.le_of_ble_eq_true rfl, Nat.le_of_ble_eq_true rfl⟩) (xPreVw (q0 := 0) hN hP hD (xAll hS hA) rfl rfl rfl) rfl rfl hl.1 rfl (lv_room (Nat.le_of_ble_eq_true rfl)) dX5_tidy_1 ⟨Nat.le_of_ble_eq_true rfl, Nat.le_of_ble_eq_true rfl⟩) (fun u_1 H locs hq_1 hP hD hS => ?_)
  obtain ⟨h_r, rfl, hh_r⟩ := hq_1
  have hP : va_P D vwCl [((a 0), .inr (5, [.ref (a 1), .ref (a 2), .int (nI (pushN kt)), .ref (a 3), .ref (a 4), .ref (a 5), .int (nI ln), .ref (a 6), .int (nI td)])), ((a 1), .inl (kA 0, 169, .inl (vI V))), ((a 2), .inl (kA 0, 1014, .inl (h_r))), ((a 3), .inl (kA 0, 338, .inl (sl))), ((a 4), .inl (kA 2, 2, .inl (sv))), ((a 5), .inl (kA 0, 60, .inl (pd))), ((a 6), .inl (kA 0, 5, .inl (sg)))] H := hP
  have hD : va_D A [((a 0), .inr (5, [.ref (a 1), .ref (a 2), .int (nI (pushN kt)), .ref (a 3), .ref (a 4), .ref (a 5), .int (nI ln), .ref (a 6), .int (nI td)])), ((a 1), .inl (kA 0, 169, .inl (vI V))), ((a 2), .inl (kA 0, 1014, .inl (h_r))), ((a 3), .inl (kA 0, 338, .inl (sl))), ((a 4), .inl (kA 2, 2, .inl (sv))), ((a 5), .inl (kA 0, 60, .inl (pd))), ((a 6), .inl (kA 0, 5, .inl (sg)))] := hD
  refine lv_iconst (v := nI 0) hx hb dX5_tidy_4 (by decide) ?_
  refine lv_istore_n (lv' := [(1, .int (nI 0)), (0, .ref (a 0))]) hx hb dX5_tidy_5 rfl hl (by decide) rfl (fun ls hl => ?_)
  refine lv_aload_n hx hb dX5_tidy_6 rfl (lv_at hl 1 rfl) ?_
  refine xWWi hS (va_runV (As := []) (rest := []) C (c_X5_firstIdle xl D kA a V h_r sl sv pd sg (pushN kt) ln td hV hW A) (cwV 0 hts gX5_tidy_X5_firstIdle rfl rfl rfl (by decide +kernel) ⟨Nat.le_of_ble_eq_true rfl, Nat.le_of_ble_eq_true rfl⟩) (xPreVw (q0 := 0) hN hP hD (xAll hS hA) rfl rfl rfl) rfl rfl hl.1 rfl (lv_room (Nat.le_of_ble_eq_true rfl)) dX5_tidy_7 ⟨Nat.le_of_ble_eq_true rfl, Nat.le_of_ble_eq_true rfl⟩) (fun r_7 u_7 H locs hq_7 hP hD hS => ?_)
  obtain ⟨rfl, g_7, rfl⟩ := hq_7
  have hP : va_P D vwCl [((a 0), .inr (5, [.ref (a 1), .ref (a 2), .int (nI (pushN kt)), .ref (a 3), .ref (a 4), .ref (a 5), .int (nI ln), .ref (a 6), .int (nI td)])), ((a 1), .inl (kA 0, 169, .inl (vI V))), ((a 2), .inl (kA 0, 1014, .inl (h_r))), ((a 3), .inl (kA 0, 338, .inl (sl))), ((a 4), .inl (kA 2, 2, .inl (sv))), ((a 5), .inl (kA 0, 60, .inl (pd))), ((a 6), .inl (kA 0, 5, .inl (g_7)))] H := hP
  have hD : va_D A [((a 0), .inr (5, [.ref (a 1), .ref (a 2), .int (nI (pushN kt)), .ref (a 3), .ref (a 4), .ref (a 5), .int (nI ln), .ref (a 6), .int (nI td)])), ((a 1), .inl (kA 0, 169, .inl (vI V))), ((a 2), .inl (kA 0, 1014, .inl (h_r))), ((a 3), .inl (kA 0, 338, .inl (sl))), ((a 4), .inl (kA 2, 2, .inl (sv))), ((a 5), .inl (kA 0, 60, .inl (pd))), ((a 6), .inl (kA 0, 5, .inl (g_7)))] := hD
  refine lv_istore_n (lv' := [(2, .int (fiR V)), (1, .int (nI 0)), (0, .ref (a 0))]) hx hb dX5_tidy_10 rfl hl (by decide) rfl (fun ls hl => ?_)
  have L11 : ∀ (fuel : Nat), ∀ (t : Nat) (U : Nat → Nat) (k : Nat) (g1 : Nat → Int32) (hmu : U 0 < fuel) (hU : U 0 ≤ 24) (hWU : WfT (U 0) (TV U)) (hkk : U 0 < k) (ht1 : (tdK 25 V).1 = t + (tdK k U).1) (ht2 : (tdK 25 V).2 = (tdK k U).2) (H : Heap) (locs : List Loc) (_ : va_P D vwCl [((a 0), .inr (5, [.ref (a 1), .ref (a 2), .int (nI (pushN kt)), .ref (a 3), .ref (a 4), .ref (a 5), .int (nI ln), .ref (a 6), .int (nI td)])), ((a 1), .inl (kA 0, 169, .inl (vI U))), ((a 2), .inl (kA 0, 1014, .inl (h_r))), ((a 3), .inl (kA 0, 338, .inl (sl))), ((a 4), .inl (kA 2, 2, .inl (sv))), ((a 5), .inl (kA 0, 60, .inl (pd))), ((a 6), .inl (kA 0, 5, .inl (g1)))] H) (_ : va_D A [((a 0), .inr (5, [.ref (a 1), .ref (a 2), .int (nI (pushN kt)), .ref (a 3), .ref (a 4), .ref (a 5), .int (nI ln), .ref (a 6), .int (nI td)])), ((a 1), .inl (kA 0, 169, .inl (vI U))), ((a 2), .inl (kA 0, 1014, .inl (h_r))), ((a 3), .inl (kA 0, 338, .inl (sl))), ((a 4), .inl (kA 2, 2, .inl (sv))), ((a 5), .inl (kA 0, 60, .inl (pd))), ((a 6), .inl (kA 0, 5, .inl (g1)))]) (_ : va_S A xs.heap H locs) (ls : Array Slot) (_ : lv_has ls 3 [(2, .int (fiR U)), (1, .int (nI t)), (0, .ref (a 0))]), W xp xl xe (headSpec wsX5_tidy { frames := 8, cells := 0, slots := 0, locals := 187 }).room xs xm ([.ref (a 0)] : List Value).toArray xbe xme xc H locs 0 0 (MQ xbe (xQi D A (fun r u => r = (opTidy (V, ln, P, kt, HH, HB, LL) ).1 ∧ ModR kA a (opTidy (V, ln, P, kt, HH, HB, LL) ).2 u)) ([.ref (a 0)] : List Value).toArray xs 0 0 A) (F0 xm 11 ls []) := by
    intro fuel
    induction fuel with
    | zero => intro t U k g1 hmu; exact absurd hmu (Nat.not_lt_zero _)
    | succ fuel ih11 =>
      intro t U k g1 hmu hU hWU hkk ht1 ht2 H locs hP hD hS ls hl
      refine lv_iload_n hx hb dX5_tidy_11 rfl (lv_at hl 0 rfl) ?_
      refine lv_bipush (v := (-6)) hx hb dX5_tidy_12 (by decide) ?_
      refine lv_icmp_eq (tgt := 33) hx hb dX5_tidy_14 (by decide) (fun h_14 => ?_) (fun h_14 => ?_)
      · skip
        have c_14 := fi_eq h_14 hU
        refine lv_iload_n hx hb dX5_tidy_33 rfl (lv_at hl 1 rfl) ?_
        exact xRetI hx hb hret (v := nI t) (retS (S2 := (U, ln, P, (pushN kt), (pushH HH kt V), HB, LL)) (by simp [opTidy, ht1, ht2, td_e c_14]) ⟨h_r, sl, sv, pd, g1, td, rfl, hh_r, hpd, hsv⟩) hP hD hS dX5_tidy_34 hlocks
      · skip
        obtain ⟨c_14, e_14⟩ := fi_ne h_14
        rw [e_14] at hl
        refine lv_aload_n hx hb dX5_tidy_17 rfl (lv_at hl 2 rfl) ?_
        refine lv_iload_n hx hb dX5_tidy_18 rfl (lv_at hl 0 rfl) ?_
        refine xWWv hS (va_runV (As := [.int (nI (fiN U))]) (rest := []) C (c_X5_strikes xl D kA a U h_r sl sv pd g1 (pushN kt) ln td (fiN U) c_14 hU A) (cwV 1 hts gX5_tidy_X5_strikes rfl rfl rfl (by decide +kernel) ⟨Nat.le_of_ble_eq_true rfl, Nat.le_of_ble_eq_true rfl⟩) (xPreVw (q0 := 0) hN hP hD (xAll hS hA) rfl rfl rfl) rfl rfl hl.1 rfl (lv_room (Nat.le_of_ble_eq_true rfl)) dX5_tidy_19 ⟨Nat.le_of_ble_eq_true rfl, Nat.le_of_ble_eq_true rfl⟩) (fun u_19 H locs hq_19 hP hD hS => ?_)
        subst hq_19
        have hP : va_P D vwCl [((a 0), .inr (5, [.ref (a 1), .ref (a 2), .int (nI (pushN kt)), .ref (a 3), .ref (a 4), .ref (a 5), .int (nI ln), .ref (a 6), .int (nI td)])), ((a 1), .inl (kA 0, 169, .inl (vI (strV U (fiN U))))), ((a 2), .inl (kA 0, 1014, .inl (h_r))), ((a 3), .inl (kA 0, 338, .inl (sl))), ((a 4), .inl (kA 2, 2, .inl (sv))), ((a 5), .inl (kA 0, 60, .inl (pd))), ((a 6), .inl (kA 0, 5, .inl (g1)))] H := hP
        have hD : va_D A [((a 0), .inr (5, [.ref (a 1), .ref (a 2), .int (nI (pushN kt)), .ref (a 3), .ref (a 4), .ref (a 5), .int (nI ln), .ref (a 6), .int (nI td)])), ((a 1), .inl (kA 0, 169, .inl (vI (strV U (fiN U))))), ((a 2), .inl (kA 0, 1014, .inl (h_r))), ((a 3), .inl (kA 0, 338, .inl (sl))), ((a 4), .inl (kA 2, 2, .inl (sv))), ((a 5), .inl (kA 0, 60, .inl (pd))), ((a 6), .inl (kA 0, 5, .inl (g1)))] := hD
        refine xIinc C (kx := 1) (d := 1) (lv' := [(1, .int (nI (t + 1))), (2, .int (nI (fiN U))), (0, .ref (a 0))]) dX5_tidy_22 hl rfl (by decide) (by decide) rfl (fun ls hl => ?_)
        refine lv_aload_n hx hb dX5_tidy_25 rfl (lv_at hl 2 rfl) ?_
        refine xWWi hS (va_runV (As := []) (rest := []) C (c_X5_firstIdle xl D kA a (strV U (fiN U)) h_r sl sv pd g1 (pushN kt) ln td (by show U 0 - 1 ≤ 24; omega) (WfT_str hWU) A) (cwV 0 hts gX5_tidy_X5_firstIdle rfl rfl rfl (by decide +kernel) ⟨Nat.le_of_ble_eq_true rfl, Nat.le_of_ble_eq_true rfl⟩) (xPreVw (q0 := 0) hN hP hD (xAll hS hA) rfl rfl rfl) rfl rfl hl.1 rfl (lv_room (Nat.le_of_ble_eq_true rfl)) dX5_tidy_26 ⟨Nat.le_of_ble_eq_true rfl, Nat.le_of_ble_eq_true rfl⟩) (fun r_26 u_26 H locs hq_26 hP hD hS => ?_)
        obtain ⟨rfl, g_26, rfl⟩ := hq_26
        have hP : va_P D vwCl [((a 0), .inr (5, [.ref (a 1), .ref (a 2), .int (nI (pushN kt)), .ref (a 3), .ref (a 4), .ref (a 5), .int (nI ln), .ref (a 6), .int (nI td)])), ((a 1), .inl (kA 0, 169, .inl (vI (strV U (fiN U))))), ((a 2), .inl (kA 0, 1014, .inl (h_r))), ((a 3), .inl (kA 0, 338, .inl (sl))), ((a 4), .inl (kA 2, 2, .inl (sv))), ((a 5), .inl (kA 0, 60, .inl (pd))), ((a 6), .inl (kA 0, 5, .inl (g_26)))] H := hP
        have hD : va_D A [((a 0), .inr (5, [.ref (a 1), .ref (a 2), .int (nI (pushN kt)), .ref (a 3), .ref (a 4), .ref (a 5), .int (nI ln), .ref (a 6), .int (nI td)])), ((a 1), .inl (kA 0, 169, .inl (vI (strV U (fiN U))))), ((a 2), .inl (kA 0, 1014, .inl (h_r))), ((a 3), .inl (kA 0, 338, .inl (sl))), ((a 4), .inl (kA 2, 2, .inl (sv))), ((a 5), .inl (kA 0, 60, .inl (pd))), ((a 6), .inl (kA 0, 5, .inl (g_26)))] := hD
        refine lv_istore_n (lv' := [(2, .int (fiR (strV U (fiN U)))), (1, .int (nI (t + 1))), (0, .ref (a 0))]) hx hb dX5_tidy_29 rfl hl (by decide) rfl (fun ls hl => ?_)
        refine lv_goto (tgt := 11) hx hb dX5_tidy_30 (by decide) ?_
        have hP : va_P D vwCl [((a 0), .inr (5, [.ref (a 1), .ref (a 2), .int (nI (pushN kt)), .ref (a 3), .ref (a 4), .ref (a 5), .int (nI ln), .ref (a 6), .int (nI td)])), ((a 1), .inl (kA 0, 169, .inl (vI (strV U (fiN U))))), ((a 2), .inl (kA 0, 1014, .inl (h_r))), ((a 3), .inl (kA 0, 338, .inl (sl))), ((a 4), .inl (kA 2, 2, .inl (sv))), ((a 5), .inl (kA 0, 60, .inl (pd))), ((a 6), .inl (kA 0, 5, .inl (g_26)))] H := hP
        exact ih11 (t + 1) (strV U (fiN U)) (k - 1) g_26 (by show U 0 - 1 < fuel; omega) (by show U 0 - 1 ≤ 24; omega) (WfT_str hWU) (by show U 0 - 1 < k - 1; omega) (by rw [ht1, td_s hkk c_14]; show t + (_ + 1) = t + 1 + _; omega) (by rw [ht2, td_s hkk c_14]) _ _ hP hD hS _ (lv_sub hl [0, 1, 2] rfl)
  exact L11 _ 0 V 25 g_7 (Nat.lt_succ_self _) hV hW (by omega) ((Nat.zero_add _).symm) rfl _ _ hP hD hS _ (lv_sub hl [0, 1, 2] rfl)

set_option maxHeartbeats 8000000 in
set_option maxRecDepth 100000 in
theorem c_X5_put (xl : Launch) (D : va_G) (kA : Nat → ClassId) (a : Nat → Nat) (V : Nat → Nat) (hs sl sv pd sg : Nat → Int32) (kt ln td : Nat) (P : Nat → Nat) (HH : Nat → Nat → Nat) (HB : Nat → Bool) (LL : Nat → Nat → Nat) (hI : InvS (V, ln, P, kt, HH, HB, LL)) (hH : relH hs kt HH) (hpd : relP pd ln P) (hsv : relS sv sl HB LL) (X : Nat) (hX : X < 2 ^ 64) (A : Nat → Prop) : Met xl yX5_put wsX5_put { frames := 1, cells := 0, slots := 0, locals := 22 } (va_Pc [.ref (a 0), .long (lN X)] (xPw D kA A [((a 0), .inr (5, [.ref (a 1), .ref (a 2), .int (nI kt), .ref (a 3), .ref (a 4), .ref (a 5), .int (nI ln), .ref (a 6), .int (nI td)])), ((a 1), .inl (kA 0, 169, .inl (vI V))), ((a 2), .inl (kA 0, 1014, .inl (hs))), ((a 3), .inl (kA 0, 338, .inl (sl))), ((a 4), .inl (kA 2, 2, .inl (sv))), ((a 5), .inl (kA 0, 60, .inl (pd))), ((a 6), .inl (kA 0, 5, .inl (sg)))])) (xQi D A (fun r u => r = (opPut (V, ln, P, kt, HH, HB, LL) X).1 ∧ ModR kA a (opPut (V, ln, P, kt, HH, HB, LL) X).2 u)) 0 0 A := by
  refine Met.ofW (cc := cX5_put) (maxL := 8) (ret := (some .int)) (by decide) rfl ?_
  intro xp xe xs xm args xbe xme xc s₁ B hml hv
  obtain ⟨rfl, hP, hN, hD, hA⟩ := hv
  have hret := B.returns
  have C : CallFix xp xm xc cX5_put 8 xs ([.ref (a 0), .long (lN X)] : List Value).toArray wsX5_put RX5 := ⟨B.exec, B.bytes, hml, findClass_of_methodNamed B.named, atoms_spec (ws := wsX5_put) B.pre⟩
  have hlocks := B.notSynchronized
  obtain ⟨hx, hb, _, hown, hts⟩ := id C
  have hS : va_S A xs.heap xs.heap [] := va_S.rf
  have hl := lv_entry ([.ref (a 0), .long (lN X)]) (n := 8) (Nat.le_of_ble_eq_true rfl)
  rw [lg_entry_eq]
  generalize (lg_sl ([.ref (a 0), .long (lN X)]) ++ List.replicate (8 - (lg_sl ([.ref (a 0), .long (lN X)])).length) Slot.unset).toArray = ls at hl ⊢
  have hl : lv_has ls 8 [(0, .ref (a 0)), (1, .long (lN X))] := hl
  obtain ⟨⟨hV, hW, hM, hG⟩, hm, hwP, hk, hIH, hIL⟩ := hI
  refine lv_iconst (v := nI 0) hx hb dX5_put_0 (by decide) ?_
  refine lv_istore_n (lv' := [(3, .int (nI 0)), (0, .ref (a 0)), (1, .long (lN X))]) hx hb dX5_put_1 rfl hl (by decide) rfl (fun ls hl => ?_)
  refine lv_iconst (v := nI 0) hx hb dX5_put_2 (by decide) ?_
  refine lv_istore (lv' := [(4, .int (nI 0)), (3, .int (nI 0)), (0, .ref (a 0)), (1, .long (lN X))]) hx hb dX5_put_3 hl (by decide) rfl (fun ls hl => ?_)
  refine lv_iconst (v := nI 0) hx hb dX5_put_5 (by decide) ?_
  refine lv_istore (lv' := [(5, .int (nI 0)), (4, .int (nI 0)), (3, .int (nI 0)), (0, .ref (a 0)), (1, .long (lN X))]) hx hb dX5_put_6 hl (by decide) rfl (fun ls hl => ?_)
  have L8 : ∀ (fuel : Nat), ∀ (k : Nat) (b : Bool) (n : Nat) (hmu : 8 - k < fuel) (hk8 : k ≤ 8) (hbb : b = anyN k (badB X)) (hn : n = cntN k (fun j => !endB X j)) (ls : Array Slot) (_ : lv_has ls 8 [(5, .int (nI k)), (4, .int (bI b)), (3, .int (nI n)), (0, .ref (a 0)), (1, .long (lN X))]), W xp xl xe (headSpec wsX5_put { frames := 1, cells := 0, slots := 0, locals := 22 }).room xs xm ([.ref (a 0), .long (lN X)] : List Value).toArray xbe xme xc xs.heap [] 0 0 (MQ xbe (xQi D A (fun r u => r = (opPut (V, ln, P, kt, HH, HB, LL) X).1 ∧ ModR kA a (opPut (V, ln, P, kt, HH, HB, LL) X).2 u)) ([.ref (a 0), .long (lN X)] : List Value).toArray xs 0 0 A) (F0 xm 8 ls []) := by
    intro fuel
    induction fuel with
    | zero => intro k b n hmu; exact absurd hmu (Nat.not_lt_zero _)
    | succ fuel ih8 =>
      intro k b n hmu hk8 hbb hn ls hl
      refine lv_iload hx hb dX5_put_8 (lv_at hl 0 rfl) ?_
      refine lv_bipush (v := nI 8) hx hb dX5_put_10 (by decide) ?_
      refine xIcmpGe C (tgt := 101) (by omega) (by decide) dX5_put_12 (by decide) (fun h_12 => ?_) (fun h_12 => ?_)
      · skip
        obtain rfl : k = 8 := by omega
        skip
        refine lv_iload hx hb dX5_put_101 (lv_at hl 1 rfl) ?_
        refine xIfEqB C (tgt := 109) dX5_put_103 (by decide) (fun h_103 => ?_) (fun h_103 => ?_)
        · skip
          have s8 : sgF X 8 0 = n := by rw [put_all, ← hbb, h_103, hn]; rfl
          have n8 : n ≤ 8 := by rw [hn]; exact sg8_le _
          have n0 : ¬ n = 0 := by rw [hn]; exact sg8_0 X
          skip
          refine lv_aload_n hx hb dX5_put_109 rfl (lv_at hl 3 rfl) ?_
          refine xGet C hN hP 0 (j := 6) rfl rfl iX5_put_X5 (by decide) kX5_put_118 rfl rfl dX5_put_110 ?_
          refine lv_iload_n hx hb dX5_put_113 rfl (lv_at hl 2 rfl) ?_
          refine xIadd C dX5_put_114 ?_
          refine lv_bipush (v := nI 60) hx hb dX5_put_115 (by decide) ?_
          refine xIcmpLe C (tgt := 123) (by omega) (by decide) dX5_put_117 (by decide) (fun h_117 => ?_) (fun h_117 => ?_)
          · skip
            refine lv_iconst (v := nI 0) hx hb dX5_put_123 (by decide) ?_
            refine lv_istore (lv' := [(5, .int (nI 0)), (4, .int (bI b)), (3, .int (nI n)), (0, .ref (a 0)), (1, .long (lN X))]) hx hb dX5_put_124 hl (by decide) rfl (fun ls hl => ?_)
            rw [← wrD_0 pd X ln n] at hP hD
            skip
            have L126 : ∀ (fuel : Nat), ∀ (e : Nat) (hmu : 60 - e < fuel) (he : e ≤ n) (H : Heap) (locs : List Loc) (_ : va_P D vwCl [((a 0), .inr (5, [.ref (a 1), .ref (a 2), .int (nI kt), .ref (a 3), .ref (a 4), .ref (a 5), .int (nI ln), .ref (a 6), .int (nI td)])), ((a 1), .inl (kA 0, 169, .inl (vI V))), ((a 2), .inl (kA 0, 1014, .inl (hs))), ((a 3), .inl (kA 0, 338, .inl (sl))), ((a 4), .inl (kA 2, 2, .inl (sv))), ((a 5), .inl (kA 0, 60, .inl (wrD pd X ln n e))), ((a 6), .inl (kA 0, 5, .inl (sg)))] H) (_ : va_D A [((a 0), .inr (5, [.ref (a 1), .ref (a 2), .int (nI kt), .ref (a 3), .ref (a 4), .ref (a 5), .int (nI ln), .ref (a 6), .int (nI td)])), ((a 1), .inl (kA 0, 169, .inl (vI V))), ((a 2), .inl (kA 0, 1014, .inl (hs))), ((a 3), .inl (kA 0, 338, .inl (sl))), ((a 4), .inl (kA 2, 2, .inl (sv))), ((a 5), .inl (kA 0, 60, .inl (wrD pd X ln n e))), ((a 6), .inl (kA 0, 5, .inl (sg)))]) (_ : va_S A xs.heap H locs) (ls : Array Slot) (_ : lv_has ls 8 [(5, .int (nI e)), (4, .int (bI b)), (3, .int (nI n)), (0, .ref (a 0)), (1, .long (lN X))]), W xp xl xe (headSpec wsX5_put { frames := 1, cells := 0, slots := 0, locals := 22 }).room xs xm ([.ref (a 0), .long (lN X)] : List Value).toArray xbe xme xc H locs 0 0 (MQ xbe (xQi D A (fun r u => r = (opPut (V, ln, P, kt, HH, HB, LL) X).1 ∧ ModR kA a (opPut (V, ln, P, kt, HH, HB, LL) X).2 u)) ([.ref (a 0), .long (lN X)] : List Value).toArray xs 0 0 A) (F0 xm 126 ls []) := by
              intro fuel
              induction fuel with
              | zero => intro e hmu; exact absurd hmu (Nat.not_lt_zero _)
              | succ fuel ih126 =>
                intro e hmu he H locs hP hD hS ls hl
                refine lv_iload hx hb dX5_put_126 (lv_at hl 0 rfl) ?_
                refine lv_iload_n hx hb dX5_put_128 rfl (lv_at hl 2 rfl) ?_
                refine xIcmpGe C (tgt := 166) (by omega) (by omega) dX5_put_129 (by decide) (fun h_129 => ?_) (fun h_129 => ?_)
                · skip
                  rw [show e = n by omega] at hP hD
                  skip
                  refine lv_aload_n hx hb dX5_put_166 rfl (lv_at hl 3 rfl) ?_
                  refine lv_dup hx hb dX5_put_167 rfl ?_
                  refine xGet C hN hP 0 (j := 6) rfl rfl iX5_put_X5 (by decide) kX5_put_118 rfl rfl dX5_put_168 ?_
                  refine lv_iload_n hx hb dX5_put_171 rfl (lv_at hl 2 rfl) ?_
                  refine xIadd C dX5_put_172 ?_
                  refine xPut C hN hP hD hS 0 (j := 6) (v := .int (nI (ln + n))) rfl rfl iX5_put_X5 tyX5_ok nmX5 (by decide) kX5_put_118 rfl rfl rfl rfl (Nat.le_of_ble_eq_true rfl) dX5_put_173 (fun H locs hP hD hS => ?_)
                  have hP : va_P D vwCl [((a 0), .inr (5, [.ref (a 1), .ref (a 2), .int (nI kt), .ref (a 3), .ref (a 4), .ref (a 5), .int (nI (ln + n)), .ref (a 6), .int (nI td)])), ((a 1), .inl (kA 0, 169, .inl (vI V))), ((a 2), .inl (kA 0, 1014, .inl (hs))), ((a 3), .inl (kA 0, 338, .inl (sl))), ((a 4), .inl (kA 2, 2, .inl (sv))), ((a 5), .inl (kA 0, 60, .inl (wrD pd X ln n n))), ((a 6), .inl (kA 0, 5, .inl (sg)))] H := hP
                  have hD : va_D A [((a 0), .inr (5, [.ref (a 1), .ref (a 2), .int (nI kt), .ref (a 3), .ref (a 4), .ref (a 5), .int (nI (ln + n)), .ref (a 6), .int (nI td)])), ((a 1), .inl (kA 0, 169, .inl (vI V))), ((a 2), .inl (kA 0, 1014, .inl (hs))), ((a 3), .inl (kA 0, 338, .inl (sl))), ((a 4), .inl (kA 2, 2, .inl (sv))), ((a 5), .inl (kA 0, 60, .inl (wrD pd X ln n n))), ((a 6), .inl (kA 0, 5, .inl (sg)))] := hD
                  refine lv_aload_n hx hb dX5_put_176 rfl (lv_at hl 3 rfl) ?_
                  refine xGet C hN hP 0 (j := 6) rfl rfl iX5_put_X5 (by decide) kX5_put_118 rfl rfl dX5_put_177 ?_
                  exact xRetI hx hb hret (v := nI (ln + n)) (retS (S2 := (V, (ln + n), (putP X ln P n), kt, HH, HB, LL)) (by simp [opPut, s8, n0, show ¬ 60 < ln + n by omega]) ⟨hs, sl, sv, wrD pd X ln n n, sg, td, rfl, hH, (relP_put hpd), hsv⟩) hP hD hS dX5_put_180 hlocks
                · skip
                  refine lv_aload_n hx hb dX5_put_132 rfl (lv_at hl 3 rfl) ?_
                  refine xGet C hN hP 0 (j := 5) rfl rfl iX5_put_X5 (by decide) kX5_put_23 rfl rfl dX5_put_133 ?_
                  refine lv_aload_n hx hb dX5_put_136 rfl (lv_at hl 3 rfl) ?_
                  refine xGet C hN hP 0 (j := 6) rfl rfl iX5_put_X5 (by decide) kX5_put_118 rfl rfl dX5_put_137 ?_
                  refine lv_iload_n hx hb dX5_put_140 rfl (lv_at hl 2 rfl) ?_
                  refine xIadd C dX5_put_141 ?_
                  refine lv_iconst (v := nI 1) hx hb dX5_put_142 (by decide) ?_
                  refine xIsub C (by omega) dX5_put_143 ?_
                  refine lv_iload hx hb dX5_put_144 (lv_at hl 0 rfl) ?_
                  refine xIsub C (by omega) dX5_put_146 ?_
                  refine lv_lload_n hx hb dX5_put_147 rfl (lv_at hl 4 rfl) ?_
                  refine lv_bipush (v := nI 8) hx hb dX5_put_148 (by decide) ?_
                  refine lv_iload hx hb dX5_put_150 (lv_at hl 0 rfl) ?_
                  refine xImul C dX5_put_152 ?_
                  refine lv_lushr (v := ((lN X).toUInt64 >>> ((nI (8 * e)).toInt64.toUInt64 &&& Int64.toUInt64 63)).toInt64) hx hb dX5_put_153 rfl ?_
                  refine xTopL (y := lN (X / 2 ^ (e * 8))) (by rw [wb_shr hX (by omega), Nat.mul_comm 8 e]) ?_
                  refine lv_ldc2 (v := 255) hx hb hown (hts _ (List.mem_of_getElem? (i := 1) rfl)) dX5_put_154 ?_
                  refine xTopL (y := lN 255) (rfl) ?_
                  refine lv_land hx hb dX5_put_157 ?_
                  refine xTopL (y := lN (byB X e)) (wb_mask (k := 8) (div_lt64 hX) (by decide)) ?_
                  refine lv_l2i (v := (lN (byB X e)).toInt32) hx hb dX5_put_158 rfl ?_
                  refine xTop (y := nI (byB X e)) (lN_i _) ?_
                  refine xIast C hN hP hD hS 5 (j := ((ln + n) - 1) - e) rfl (by omega) (by decide) dX5_put_159 (fun H locs hP hD hS => ?_)
                  rw [show upd (wrD pd X ln n e) (((ln + n) - 1) - e) (nI (byB X e)) = wrD pd X ln n (e + 1) from wrD_s pd (by omega)] at hP hD
                  have hP : va_P D vwCl [((a 0), .inr (5, [.ref (a 1), .ref (a 2), .int (nI kt), .ref (a 3), .ref (a 4), .ref (a 5), .int (nI ln), .ref (a 6), .int (nI td)])), ((a 1), .inl (kA 0, 169, .inl (vI V))), ((a 2), .inl (kA 0, 1014, .inl (hs))), ((a 3), .inl (kA 0, 338, .inl (sl))), ((a 4), .inl (kA 2, 2, .inl (sv))), ((a 5), .inl (kA 0, 60, .inl (wrD pd X ln n (e + 1)))), ((a 6), .inl (kA 0, 5, .inl (sg)))] H := hP
                  have hD : va_D A [((a 0), .inr (5, [.ref (a 1), .ref (a 2), .int (nI kt), .ref (a 3), .ref (a 4), .ref (a 5), .int (nI ln), .ref (a 6), .int (nI td)])), ((a 1), .inl (kA 0, 169, .inl (vI V))), ((a 2), .inl (kA 0, 1014, .inl (hs))), ((a 3), .inl (kA 0, 338, .inl (sl))), ((a 4), .inl (kA 2, 2, .inl (sv))), ((a 5), .inl (kA 0, 60, .inl (wrD pd X ln n (e + 1)))), ((a 6), .inl (kA 0, 5, .inl (sg)))] := hD
                  refine xIinc C (kx := 0) (d := 1) (lv' := [(5, .int (nI (e + 1))), (4, .int (bI b)), (3, .int (nI n)), (0, .ref (a 0)), (1, .long (lN X))]) dX5_put_160 hl rfl (by decide) (by decide) rfl (fun ls hl => ?_)
                  refine lv_goto (tgt := 126) hx hb dX5_put_163 (by decide) ?_
                  have hP : va_P D vwCl [((a 0), .inr (5, [.ref (a 1), .ref (a 2), .int (nI kt), .ref (a 3), .ref (a 4), .ref (a 5), .int (nI ln), .ref (a 6), .int (nI td)])), ((a 1), .inl (kA 0, 169, .inl (vI V))), ((a 2), .inl (kA 0, 1014, .inl (hs))), ((a 3), .inl (kA 0, 338, .inl (sl))), ((a 4), .inl (kA 2, 2, .inl (sv))), ((a 5), .inl (kA 0, 60, .inl (wrD pd X ln n (e + 1)))), ((a 6), .inl (kA 0, 5, .inl (sg)))] H := hP
                  exact ih126 (e + 1) (by omega) (by omega) _ _ hP hD hS _ (lv_sub hl [0, 1, 2, 3, 4] rfl)
            exact L126 _ 0 (Nat.lt_succ_self _) (by omega) _ _ hP hD hS _ (lv_sub hl [0, 1, 2, 3, 4] rfl)
          · skip
            have g_117 : 60 < ln + n := by omega
            skip
            refine lv_bipush (v := (-4)) hx hb dX5_put_120 (by decide) ?_
            exact xRetI hx hb hret (v := (-4)) (retS (S2 := (V, ln, P, kt, HH, HB, LL)) (by simp [opPut, h_12, h_103, s8, n0, h_117, g_117]) ⟨hs, sl, sv, pd, sg, td, rfl, hH, hpd, hsv⟩) hP hD hS dX5_put_122 hlocks
        · skip
          have s8 : sgF X 8 0 = 0 := by rw [put_all, ← hbb, h_103]; rfl
          skip
          refine lv_bipush (v := (-2)) hx hb dX5_put_106 (by decide) ?_
          exact xRetI hx hb hret (v := (-2)) (retS (S2 := (V, ln, P, kt, HH, HB, LL)) (by simp [opPut, h_12, h_103, s8]) ⟨hs, sl, sv, pd, sg, td, rfl, hH, hpd, hsv⟩) hP hD hS dX5_put_108 hlocks
      · skip
        refine lv_lload_n hx hb dX5_put_15 rfl (lv_at hl 4 rfl) ?_
        refine lv_bipush (v := nI 8) hx hb dX5_put_16 (by decide) ?_
        refine lv_iload hx hb dX5_put_18 (lv_at hl 0 rfl) ?_
        refine xImul C dX5_put_20 ?_
        refine lv_lushr (v := ((lN X).toUInt64 >>> ((nI (8 * k)).toInt64.toUInt64 &&& Int64.toUInt64 63)).toInt64) hx hb dX5_put_21 rfl ?_
        refine xTopL (y := lN (X / 2 ^ (k * 8))) (by rw [wb_shr hX (by omega), Nat.mul_comm 8 k]) ?_
        refine lv_ldc2 (v := 255) hx hb hown (hts _ (List.mem_of_getElem? (i := 1) rfl)) dX5_put_22 ?_
        refine xTopL (y := lN 255) (rfl) ?_
        refine lv_land hx hb dX5_put_25 ?_
        refine xTopL (y := lN (byB X k)) (wb_mask (k := 8) (div_lt64 hX) (by decide)) ?_
        refine lv_l2i (v := (lN (byB X k)).toInt32) hx hb dX5_put_26 rfl ?_
        refine xTop (y := nI (byB X k)) (lN_i _) ?_
        refine lv_istore (lv' := [(6, .int (nI (byB X k))), (5, .int (nI k)), (4, .int (bI b)), (3, .int (nI n)), (0, .ref (a 0)), (1, .long (lN X))]) hx hb dX5_put_27 hl (by decide) rfl (fun ls hl => ?_)
        refine lv_iload hx hb dX5_put_29 (lv_at hl 1 rfl) ?_
        have J31 : ∀ (ls : Array Slot) (_ : lv_has ls 8 [(6, .int (nI (byB X k))), (5, .int (nI k)), (4, .int (bI b)), (3, .int (nI n)), (0, .ref (a 0)), (1, .long (lN X))]), W xp xl xe (headSpec wsX5_put { frames := 1, cells := 0, slots := 0, locals := 22 }).room xs xm ([.ref (a 0), .long (lN X)] : List Value).toArray xbe xme xc xs.heap [] 0 0 (MQ xbe (xQi D A (fun r u => r = (opPut (V, ln, P, kt, HH, HB, LL) X).1 ∧ ModR kA a (opPut (V, ln, P, kt, HH, HB, LL) X).2 u)) ([.ref (a 0), .long (lN X)] : List Value).toArray xs 0 0 A) (F0 xm 51 ls [.int (bI (endB X k))]) := by
          intro   ls hl
          refine lv_istore (lv' := [(7, .int (bI (endB X k))), (6, .int (nI (byB X k))), (5, .int (nI k)), (4, .int (bI b)), (3, .int (nI n)), (0, .ref (a 0)), (1, .long (lN X))]) hx hb dX5_put_51 hl (by decide) rfl (fun ls hl => ?_)
          refine lv_iload hx hb dX5_put_53 (lv_at hl 3 rfl) ?_
          have J55 : ∀ (ls : Array Slot) (_ : lv_has ls 8 [(7, .int (bI (endB X k))), (6, .int (nI (byB X k))), (5, .int (nI k)), (4, .int (bI b)), (3, .int (nI n)), (0, .ref (a 0)), (1, .long (lN X))]), W xp xl xe (headSpec wsX5_put { frames := 1, cells := 0, slots := 0, locals := 22 }).room xs xm ([.ref (a 0), .long (lN X)] : List Value).toArray xbe xme xc xs.heap [] 0 0 (MQ xbe (xQi D A (fun r u => r = (opPut (V, ln, P, kt, HH, HB, LL) X).1 ∧ ModR kA a (opPut (V, ln, P, kt, HH, HB, LL) X).2 u)) ([.ref (a 0), .long (lN X)] : List Value).toArray xs 0 0 A) (F0 xm 80 ls [.int (bI (b || badB X k))]) := by
            intro   ls hl
            refine lv_istore (lv' := [(4, .int (bI (b || badB X k))), (7, .int (bI (endB X k))), (6, .int (nI (byB X k))), (5, .int (nI k)), (3, .int (nI n)), (0, .ref (a 0)), (1, .long (lN X))]) hx hb dX5_put_80 hl (by decide) rfl (fun ls hl => ?_)
            refine lv_iload_n hx hb dX5_put_82 rfl (lv_at hl 4 rfl) ?_
            refine lv_iload hx hb dX5_put_83 (lv_at hl 1 rfl) ?_
            refine xIfEqB C (tgt := 92) dX5_put_85 (by decide) (fun h_85 => ?_) (fun h_85 => ?_)
            · skip
              refine lv_iconst (v := nI 1) hx hb dX5_put_92 (by decide) ?_
              refine xIadd C dX5_put_93 ?_
              refine lv_istore_n (lv' := [(3, .int (nI (n + 1))), (4, .int (bI (b || badB X k))), (7, .int (bI (endB X k))), (6, .int (nI (byB X k))), (5, .int (nI k)), (0, .ref (a 0)), (1, .long (lN X))]) hx hb dX5_put_94 rfl hl (by decide) rfl (fun ls hl => ?_)
              refine xIinc C (kx := 4) (d := 1) (lv' := [(5, .int (nI (k + 1))), (3, .int (nI (n + 1))), (4, .int (bI (b || badB X k))), (7, .int (bI (endB X k))), (6, .int (nI (byB X k))), (0, .ref (a 0)), (1, .long (lN X))]) dX5_put_95 hl rfl (by decide) (by decide) rfl (fun ls hl => ?_)
              refine lv_goto (tgt := 8) hx hb dX5_put_98 (by decide) ?_
              exact ih8 (k + 1) (b || badB X k) (n + 1) (by omega) (by omega) (by rw [anyN, ← hbb]) (by rw [cntN_succ, hn, h_85]; rfl) _ (lv_sub hl [0, 2, 1, 5, 6] rfl)
            · skip
              refine lv_iconst (v := nI 0) hx hb dX5_put_88 (by decide) ?_
              refine lv_goto (tgt := 93) hx hb dX5_put_89 (by decide) ?_
              refine xIadd C dX5_put_93 ?_
              refine lv_istore_n (lv' := [(3, .int (nI (n + 0))), (4, .int (bI (b || badB X k))), (7, .int (bI (endB X k))), (6, .int (nI (byB X k))), (5, .int (nI k)), (0, .ref (a 0)), (1, .long (lN X))]) hx hb dX5_put_94 rfl hl (by decide) rfl (fun ls hl => ?_)
              refine xIinc C (kx := 4) (d := 1) (lv' := [(5, .int (nI (k + 1))), (3, .int (nI (n + 0))), (4, .int (bI (b || badB X k))), (7, .int (bI (endB X k))), (6, .int (nI (byB X k))), (0, .ref (a 0)), (1, .long (lN X))]) dX5_put_95 hl rfl (by decide) (by decide) rfl (fun ls hl => ?_)
              refine lv_goto (tgt := 8) hx hb dX5_put_98 (by decide) ?_
              exact ih8 (k + 1) (b || badB X k) (n + 0) (by omega) (by omega) (by rw [anyN, ← hbb]) (by rw [cntN_succ, hn, h_85]; rfl) _ (lv_sub hl [0, 2, 1, 5, 6] rfl)
          refine xIfNeB C (tgt := 75) dX5_put_55 (by decide) (fun h_55 => ?_) (fun h_55 => ?_)
          · skip
            refine lv_iconst (v := nI 1) hx hb dX5_put_75 (by decide) ?_
            refine xTop (y := bI (b || badB X k)) (bad_t (by first | exact Or.inl h_55 | exact Or.inr ⟨h_60, h_72⟩)) ?_
            refine lv_goto (tgt := 80) hx hb dX5_put_76 (by decide) ?_
            exact J55   _ (lv_sub hl [0, 1, 2, 3, 4, 5, 6] rfl)
          · skip
            refine lv_iload hx hb dX5_put_58 (lv_at hl 0 rfl) ?_
            refine xIfNeB C (tgt := 79) dX5_put_60 (by decide) (fun h_60 => ?_) (fun h_60 => ?_)
            · skip
              refine lv_iconst (v := nI 0) hx hb dX5_put_79 (by decide) ?_
              refine xTop (y := bI (b || badB X k)) (bad_f h_55 (by first | exact Or.inl h_60 | exact Or.inr h_72)) ?_
              exact J55   _ (lv_sub hl [0, 1, 2, 3, 4, 5, 6] rfl)
            · skip
              refine lv_iload hx hb dX5_put_63 (lv_at hl 1 rfl) ?_
              refine lv_bipush (v := nI 33) hx hb dX5_put_65 (by decide) ?_
              refine lv_bipush (v := nI 126) hx hb dX5_put_67 (by decide) ?_
              refine xSro C hN (As := [.int (nI (byB X k)), .int (nI 33), .int (nI 126)]) (rest := []) (c_X5_in xl D kA (nI (byB X k)) (nI 33) (nI 126)) (va_cwS 3 hts gX5_put_X5_in rfl rfl rfl (by decide +kernel) ⟨Nat.le_of_ble_eq_true rfl, Nat.le_of_ble_eq_true rfl⟩) (hP.sub (ws' := []) [] rfl) rfl hl.1 rfl (Nat.le_of_ble_eq_true rfl) dX5_put_69 ⟨Nat.le_of_ble_eq_true rfl, Nat.le_of_ble_eq_true rfl⟩ ?_
              refine xTop (y := bI (btwB (byB X k) 33 126)) (congrArg bI (inR_nI (by have := byB_lt X k; omega) (by decide) (by decide))) ?_
              refine xIfNeB C (tgt := 79) dX5_put_72 (by decide) (fun h_72 => ?_) (fun h_72 => ?_)
              · skip
                refine lv_iconst (v := nI 0) hx hb dX5_put_79 (by decide) ?_
                refine xTop (y := bI (b || badB X k)) (bad_f h_55 (by first | exact Or.inl h_60 | exact Or.inr h_72)) ?_
                exact J55   _ (lv_sub hl [0, 1, 2, 3, 4, 5, 6] rfl)
              · skip
                refine lv_iconst (v := nI 1) hx hb dX5_put_75 (by decide) ?_
                refine xTop (y := bI (b || badB X k)) (bad_t (by first | exact Or.inl h_55 | exact Or.inr ⟨h_60, h_72⟩)) ?_
                refine lv_goto (tgt := 80) hx hb dX5_put_76 (by decide) ?_
                exact J55   _ (lv_sub hl [0, 1, 2, 3, 4, 5, 6] rfl)
        refine xIfLe C (tgt := 50) (by omega) dX5_put_31 (by decide) (fun h_31 => ?_) (fun h_31 => ?_)
        · skip
          refine lv_iconst (v := nI 0) hx hb dX5_put_50 (by decide) ?_
          refine xTop (y := bI (endB X k)) (by first | exact endB_f2 g_43 | exact endB_f1 h_31) ?_
          exact J31   _ (lv_sub hl [0, 1, 2, 3, 4, 5] rfl)
        · skip
          refine lv_lload_n hx hb dX5_put_34 rfl (lv_at hl 5 rfl) ?_
          refine lv_bipush (v := nI 8) hx hb dX5_put_35 (by decide) ?_
          refine lv_iload hx hb dX5_put_37 (lv_at hl 1 rfl) ?_
          refine xImul C dX5_put_39 ?_
          refine lv_lushr (v := ((lN X).toUInt64 >>> ((nI (8 * k)).toInt64.toUInt64 &&& Int64.toUInt64 63)).toInt64) hx hb dX5_put_40 rfl ?_
          refine xTopL (y := lN (X / 2 ^ (k * 8))) (by rw [wb_shr hX (by omega), Nat.mul_comm 8 k]) ?_
          refine lv_lconst (v := lN 0) hx hb dX5_put_41 (by decide) ?_
          refine W.lcmp hx hb dX5_put_42 ?_
          refine lv_if_ne (tgt := 50) hx hb dX5_put_43 (by decide) (fun h_43 => ?_) (fun h_43 => ?_)
          · skip
            have g_43 : ¬ X / 2 ^ (k * 8) = 0 := fun q => h_43 ((lcmp0 (div_lt64 hX)).mpr q)
            refine lv_iconst (v := nI 0) hx hb dX5_put_50 (by decide) ?_
            refine xTop (y := bI (endB X k)) (by first | exact endB_f2 g_43 | exact endB_f1 h_31) ?_
            exact J31   _ (lv_sub hl [0, 1, 2, 3, 4, 5] rfl)
          · skip
            have g_43 : X / 2 ^ (k * 8) = 0 := (lcmp0 (div_lt64 hX)).mp h_43
            refine lv_iconst (v := nI 1) hx hb dX5_put_46 (by decide) ?_
            refine xTop (y := bI (endB X k)) (endB_t (by omega) g_43) ?_
            refine lv_goto (tgt := 51) hx hb dX5_put_47 (by decide) ?_
            exact J31   _ (lv_sub hl [0, 1, 2, 3, 4, 5] rfl)
  exact L8 _ 0 false 0 (Nat.lt_succ_self _) (by omega) rfl rfl _ (lv_sub hl [0, 1, 2, 3, 4] rfl)

set_option maxHeartbeats 8000000 in
set_option maxRecDepth 100000 in
theorem c_X5_undo (xl : Launch) (D : va_G) (kA : Nat → ClassId) (a : Nat → Nat) (V : Nat → Nat) (hs sl sv pd sg : Nat → Int32) (kt ln td : Nat) (P : Nat → Nat) (HH : Nat → Nat → Nat) (HB : Nat → Bool) (LL : Nat → Nat → Nat) (hI : InvS (V, ln, P, kt, HH, HB, LL)) (hH : relH hs kt HH) (hpd : relP pd ln P) (hsv : relS sv sl HB LL) (A : Nat → Prop) : Met xl yX5_undo wsX5_undo { frames := 0, cells := 0, slots := 0, locals := 0 } (va_Pc [.ref (a 0)] (xPw D kA A [((a 0), .inr (5, [.ref (a 1), .ref (a 2), .int (nI kt), .ref (a 3), .ref (a 4), .ref (a 5), .int (nI ln), .ref (a 6), .int (nI td)])), ((a 1), .inl (kA 0, 169, .inl (vI V))), ((a 2), .inl (kA 0, 1014, .inl (hs))), ((a 3), .inl (kA 0, 338, .inl (sl))), ((a 4), .inl (kA 2, 2, .inl (sv))), ((a 5), .inl (kA 0, 60, .inl (pd))), ((a 6), .inl (kA 0, 5, .inl (sg)))])) (xQi D A (fun r u => r = (opUndo (V, ln, P, kt, HH, HB, LL) ).1 ∧ ModR kA a (opUndo (V, ln, P, kt, HH, HB, LL) ).2 u)) 0 0 A := by
  refine Met.ofW (cc := cX5_undo) (maxL := 2) (ret := (some .int)) (by decide) rfl ?_
  intro xp xe xs xm args xbe xme xc s₁ B hml hv
  obtain ⟨rfl, hP, hN, hD, hA⟩ := hv
  have hret := B.returns
  have C : CallFix xp xm xc cX5_undo 2 xs ([.ref (a 0)] : List Value).toArray wsX5_undo RX5 := ⟨B.exec, B.bytes, hml, findClass_of_methodNamed B.named, atoms_spec (ws := wsX5_undo) B.pre⟩
  have hlocks := B.notSynchronized
  obtain ⟨hx, hb, _, hown, hts⟩ := id C
  have hS : va_S A xs.heap xs.heap [] := va_S.rf
  have hl := lv_entry ([.ref (a 0)]) (n := 2) (Nat.le_of_ble_eq_true rfl)
  rw [lg_entry_eq]
  generalize (lg_sl ([.ref (a 0)]) ++ List.replicate (2 - (lg_sl ([.ref (a 0)])).length) Slot.unset).toArray = ls at hl ⊢
  have hl : lv_has ls 2 [(0, .ref (a 0))] := hl
  obtain ⟨⟨hV, hW, hM, hG⟩, hm, hwP, hk, hIH, hIL⟩ := hI
  refine lv_aload_n hx hb dX5_undo_0 rfl (lv_at hl 0 rfl) ?_
  refine xGet C hN hP 0 (j := 2) rfl rfl iX5_undo_X5 (by decide) kX5_undo_37 rfl rfl dX5_undo_1 ?_
  refine xIfNe C (tgt := 10) (by omega) dX5_undo_4 (by decide) (fun h_4 => ?_) (fun h_4 => ?_)
  · skip
    have g_4 : ¬ kt = 0 := by omega
    skip
    refine lv_aload_n hx hb dX5_undo_10 rfl (lv_at hl 0 rfl) ?_
    refine lv_dup hx hb dX5_undo_11 rfl ?_
    refine xGet C hN hP 0 (j := 2) rfl rfl iX5_undo_X5 (by decide) kX5_undo_37 rfl rfl dX5_undo_12 ?_
    refine lv_iconst (v := nI 1) hx hb dX5_undo_15 (by decide) ?_
    refine xIsub C (by omega) dX5_undo_16 ?_
    refine xPut C hN hP hD hS 0 (j := 2) (v := .int (nI (kt - 1))) rfl rfl iX5_undo_X5 tyX5_ok nmX5 (by decide) kX5_undo_37 rfl rfl rfl rfl (Nat.le_of_ble_eq_true rfl) dX5_undo_17 (fun H locs hP hD hS => ?_)
    have hP : va_P D vwCl [((a 0), .inr (5, [.ref (a 1), .ref (a 2), .int (nI (kt - 1)), .ref (a 3), .ref (a 4), .ref (a 5), .int (nI ln), .ref (a 6), .int (nI td)])), ((a 1), .inl (kA 0, 169, .inl (vI V))), ((a 2), .inl (kA 0, 1014, .inl (hs))), ((a 3), .inl (kA 0, 338, .inl (sl))), ((a 4), .inl (kA 2, 2, .inl (sv))), ((a 5), .inl (kA 0, 60, .inl (pd))), ((a 6), .inl (kA 0, 5, .inl (sg)))] H := hP
    have hD : va_D A [((a 0), .inr (5, [.ref (a 1), .ref (a 2), .int (nI (kt - 1)), .ref (a 3), .ref (a 4), .ref (a 5), .int (nI ln), .ref (a 6), .int (nI td)])), ((a 1), .inl (kA 0, 169, .inl (vI V))), ((a 2), .inl (kA 0, 1014, .inl (hs))), ((a 3), .inl (kA 0, 338, .inl (sl))), ((a 4), .inl (kA 2, 2, .inl (sv))), ((a 5), .inl (kA 0, 60, .inl (pd))), ((a 6), .inl (kA 0, 5, .inl (sg)))] := hD
    refine lv_iconst (v := nI 0) hx hb dX5_undo_20 (by decide) ?_
    refine lv_istore_n (lv' := [(1, .int (nI 0)), (0, .ref (a 0))]) hx hb dX5_undo_21 rfl hl (by decide) rfl (fun ls hl => ?_)
    rw [← mixV_0 V (HH (kt - 1))] at hP hD
    skip
    have L22 : ∀ (fuel : Nat), ∀ (e : Nat) (hmu : 169 - e < fuel) (he : e ≤ 169) (H : Heap) (locs : List Loc) (_ : va_P D vwCl [((a 0), .inr (5, [.ref (a 1), .ref (a 2), .int (nI (kt - 1)), .ref (a 3), .ref (a 4), .ref (a 5), .int (nI ln), .ref (a 6), .int (nI td)])), ((a 1), .inl (kA 0, 169, .inl (vI (mixV V (HH (kt - 1)) e)))), ((a 2), .inl (kA 0, 1014, .inl (hs))), ((a 3), .inl (kA 0, 338, .inl (sl))), ((a 4), .inl (kA 2, 2, .inl (sv))), ((a 5), .inl (kA 0, 60, .inl (pd))), ((a 6), .inl (kA 0, 5, .inl (sg)))] H) (_ : va_D A [((a 0), .inr (5, [.ref (a 1), .ref (a 2), .int (nI (kt - 1)), .ref (a 3), .ref (a 4), .ref (a 5), .int (nI ln), .ref (a 6), .int (nI td)])), ((a 1), .inl (kA 0, 169, .inl (vI (mixV V (HH (kt - 1)) e)))), ((a 2), .inl (kA 0, 1014, .inl (hs))), ((a 3), .inl (kA 0, 338, .inl (sl))), ((a 4), .inl (kA 2, 2, .inl (sv))), ((a 5), .inl (kA 0, 60, .inl (pd))), ((a 6), .inl (kA 0, 5, .inl (sg)))]) (_ : va_S A xs.heap H locs) (ls : Array Slot) (_ : lv_has ls 2 [(1, .int (nI e)), (0, .ref (a 0))]), W xp xl xe (headSpec wsX5_undo { frames := 0, cells := 0, slots := 0, locals := 0 }).room xs xm ([.ref (a 0)] : List Value).toArray xbe xme xc H locs 0 0 (MQ xbe (xQi D A (fun r u => r = (opUndo (V, ln, P, kt, HH, HB, LL) ).1 ∧ ModR kA a (opUndo (V, ln, P, kt, HH, HB, LL) ).2 u)) ([.ref (a 0)] : List Value).toArray xs 0 0 A) (F0 xm 22 ls []) := by
      intro fuel
      induction fuel with
      | zero => intro e hmu; exact absurd hmu (Nat.not_lt_zero _)
      | succ fuel ih22 =>
        intro e hmu he H locs hP hD hS ls hl
        refine lv_iload_n hx hb dX5_undo_22 rfl (lv_at hl 0 rfl) ?_
        refine lv_sipush (v := nI 169) hx hb dX5_undo_23 (by decide) ?_
        refine xIcmpGe C (tgt := 56) (by omega) (by decide) dX5_undo_26 (by decide) (fun h_26 => ?_) (fun h_26 => ?_)
        · skip
          have hP := xCellP (p := 1) (g := vI (HH (kt - 1))) hP rfl (mixV_e (by omega))
          have hD := xCellD (p := 1) (g := vI (HH (kt - 1))) hD rfl
          skip
          have hP : va_P D vwCl [((a 0), .inr (5, [.ref (a 1), .ref (a 2), .int (nI (kt - 1)), .ref (a 3), .ref (a 4), .ref (a 5), .int (nI ln), .ref (a 6), .int (nI td)])), ((a 1), .inl (kA 0, 169, .inl (vI (HH (kt - 1))))), ((a 2), .inl (kA 0, 1014, .inl (hs))), ((a 3), .inl (kA 0, 338, .inl (sl))), ((a 4), .inl (kA 2, 2, .inl (sv))), ((a 5), .inl (kA 0, 60, .inl (pd))), ((a 6), .inl (kA 0, 5, .inl (sg)))] _ := hP
          have hD : va_D A [((a 0), .inr (5, [.ref (a 1), .ref (a 2), .int (nI (kt - 1)), .ref (a 3), .ref (a 4), .ref (a 5), .int (nI ln), .ref (a 6), .int (nI td)])), ((a 1), .inl (kA 0, 169, .inl (vI (HH (kt - 1))))), ((a 2), .inl (kA 0, 1014, .inl (hs))), ((a 3), .inl (kA 0, 338, .inl (sl))), ((a 4), .inl (kA 2, 2, .inl (sv))), ((a 5), .inl (kA 0, 60, .inl (pd))), ((a 6), .inl (kA 0, 5, .inl (sg)))] := hD
          refine lv_aload_n hx hb dX5_undo_56 rfl (lv_at hl 1 rfl) ?_
          refine xGet C hN hP 0 (j := 2) rfl rfl iX5_undo_X5 (by decide) kX5_undo_37 rfl rfl dX5_undo_57 ?_
          exact xRetI hx hb hret (v := nI (kt - 1)) (retS (S2 := ((HH (kt - 1)), ln, P, (kt - 1), HH, HB, LL)) (by simp [opUndo, h_4, g_4, h_26]) ⟨hs, sl, sv, pd, sg, td, rfl, (fun i hi => hH i (by omega)), hpd, hsv⟩) hP hD hS dX5_undo_60 hlocks
        · skip
          refine lv_aload_n hx hb dX5_undo_29 rfl (lv_at hl 1 rfl) ?_
          refine xGet C hN hP 0 (j := 0) rfl rfl iX5_undo_X5 (by decide) kX5_undo_7 rfl rfl dX5_undo_30 ?_
          refine lv_iload_n hx hb dX5_undo_33 rfl (lv_at hl 0 rfl) ?_
          refine lv_aload_n hx hb dX5_undo_34 rfl (lv_at hl 1 rfl) ?_
          refine xGet C hN hP 0 (j := 1) rfl rfl iX5_undo_X5 (by decide) kX5_undo_13 rfl rfl dX5_undo_35 ?_
          refine lv_sipush (v := nI 169) hx hb dX5_undo_38 (by decide) ?_
          refine lv_aload_n hx hb dX5_undo_41 rfl (lv_at hl 1 rfl) ?_
          refine xGet C hN hP 0 (j := 2) rfl rfl iX5_undo_X5 (by decide) kX5_undo_37 rfl rfl dX5_undo_42 ?_
          refine xImul C dX5_undo_45 ?_
          refine lv_iload_n hx hb dX5_undo_46 rfl (lv_at hl 0 rfl) ?_
          refine xIadd C dX5_undo_47 ?_
          refine xIald C hN hP 2 (j := (169 * (kt - 1)) + e) (v := nI (HH (kt - 1) e)) rfl (by omega) (by decide) (hH (kt - 1) (by omega) e (by omega)) dX5_undo_48 ?_
          refine xIast C hN hP hD hS 1 (j := e) rfl (by omega) (by decide) dX5_undo_49 (fun H locs hP hD hS => ?_)
          rw [show upd (vI (mixV V (HH (kt - 1)) e)) (e) (nI (HH (kt - 1) e)) = vI (mixV V (HH (kt - 1)) (e + 1)) from by rw [upd_vI, mixV_s]] at hP hD
          have hP : va_P D vwCl [((a 0), .inr (5, [.ref (a 1), .ref (a 2), .int (nI (kt - 1)), .ref (a 3), .ref (a 4), .ref (a 5), .int (nI ln), .ref (a 6), .int (nI td)])), ((a 1), .inl (kA 0, 169, .inl (vI (mixV V (HH (kt - 1)) (e + 1))))), ((a 2), .inl (kA 0, 1014, .inl (hs))), ((a 3), .inl (kA 0, 338, .inl (sl))), ((a 4), .inl (kA 2, 2, .inl (sv))), ((a 5), .inl (kA 0, 60, .inl (pd))), ((a 6), .inl (kA 0, 5, .inl (sg)))] H := hP
          have hD : va_D A [((a 0), .inr (5, [.ref (a 1), .ref (a 2), .int (nI (kt - 1)), .ref (a 3), .ref (a 4), .ref (a 5), .int (nI ln), .ref (a 6), .int (nI td)])), ((a 1), .inl (kA 0, 169, .inl (vI (mixV V (HH (kt - 1)) (e + 1))))), ((a 2), .inl (kA 0, 1014, .inl (hs))), ((a 3), .inl (kA 0, 338, .inl (sl))), ((a 4), .inl (kA 2, 2, .inl (sv))), ((a 5), .inl (kA 0, 60, .inl (pd))), ((a 6), .inl (kA 0, 5, .inl (sg)))] := hD
          refine xIinc C (kx := 0) (d := 1) (lv' := [(1, .int (nI (e + 1))), (0, .ref (a 0))]) dX5_undo_50 hl rfl (by decide) (by decide) rfl (fun ls hl => ?_)
          refine lv_goto (tgt := 22) hx hb dX5_undo_53 (by decide) ?_
          have hP : va_P D vwCl [((a 0), .inr (5, [.ref (a 1), .ref (a 2), .int (nI (kt - 1)), .ref (a 3), .ref (a 4), .ref (a 5), .int (nI ln), .ref (a 6), .int (nI td)])), ((a 1), .inl (kA 0, 169, .inl (vI (mixV V (HH (kt - 1)) (e + 1))))), ((a 2), .inl (kA 0, 1014, .inl (hs))), ((a 3), .inl (kA 0, 338, .inl (sl))), ((a 4), .inl (kA 2, 2, .inl (sv))), ((a 5), .inl (kA 0, 60, .inl (pd))), ((a 6), .inl (kA 0, 5, .inl (sg)))] H := hP
          exact ih22 (e + 1) (by omega) (by omega) _ _ hP hD hS _ (lv_sub hl [0, 1] rfl)
    exact L22 _ 0 (Nat.lt_succ_self _) (by omega) _ _ hP hD hS _ (lv_sub hl [0, 1] rfl)
  · skip
    refine lv_bipush (v := (-5)) hx hb dX5_undo_7 (by decide) ?_
    exact xRetI hx hb hret (v := (-5)) (retS (S2 := (V, ln, P, kt, HH, HB, LL)) (by simp [opUndo, h_4]) ⟨hs, sl, sv, pd, sg, td, rfl, hH, hpd, hsv⟩) hP hD hS dX5_undo_9 hlocks

set_option maxHeartbeats 8000000 in
set_option maxRecDepth 100000 in
theorem c_X5_save (xl : Launch) (D : va_G) (kA : Nat → ClassId) (a : Nat → Nat) (V : Nat → Nat) (hs sl sv pd sg : Nat → Int32) (kt ln td : Nat) (P : Nat → Nat) (HH : Nat → Nat → Nat) (HB : Nat → Bool) (LL : Nat → Nat → Nat) (hI : InvS (V, ln, P, kt, HH, HB, LL)) (hH : relH hs kt HH) (hpd : relP pd ln P) (hsv : relS sv sl HB LL) (x : Int32) (A : Nat → Prop) : Met xl yX5_save wsX5_save { frames := 1, cells := 0, slots := 0, locals := 22 } (va_Pc [.ref (a 0), .int x] (xPw D kA A [((a 0), .inr (5, [.ref (a 1), .ref (a 2), .int (nI kt), .ref (a 3), .ref (a 4), .ref (a 5), .int (nI ln), .ref (a 6), .int (nI td)])), ((a 1), .inl (kA 0, 169, .inl (vI V))), ((a 2), .inl (kA 0, 1014, .inl (hs))), ((a 3), .inl (kA 0, 338, .inl (sl))), ((a 4), .inl (kA 2, 2, .inl (sv))), ((a 5), .inl (kA 0, 60, .inl (pd))), ((a 6), .inl (kA 0, 5, .inl (sg)))])) (xQi D A (fun r u => r = (opSave (V, ln, P, kt, HH, HB, LL) x).1 ∧ ModR kA a (opSave (V, ln, P, kt, HH, HB, LL) x).2 u)) 0 0 A := by
  refine Met.ofW (cc := cX5_save) (maxL := 3) (ret := (some .int)) (by decide) rfl ?_
  intro xp xe xs xm args xbe xme xc s₁ B hml hv
  obtain ⟨rfl, hP, hN, hD, hA⟩ := hv
  have hret := B.returns
  have C : CallFix xp xm xc cX5_save 3 xs ([.ref (a 0), .int x] : List Value).toArray wsX5_save RX5 := ⟨B.exec, B.bytes, hml, findClass_of_methodNamed B.named, atoms_spec (ws := wsX5_save) B.pre⟩
  have hlocks := B.notSynchronized
  obtain ⟨hx, hb, _, hown, hts⟩ := id C
  have hS : va_S A xs.heap xs.heap [] := va_S.rf
  have hl := lv_entry ([.ref (a 0), .int x]) (n := 3) (Nat.le_of_ble_eq_true rfl)
  rw [lg_entry_eq]
  generalize (lg_sl ([.ref (a 0), .int x]) ++ List.replicate (3 - (lg_sl ([.ref (a 0), .int x])).length) Slot.unset).toArray = ls at hl ⊢
  have hl : lv_has ls 3 [(0, .ref (a 0)), (1, .int x)] := hl
  obtain ⟨⟨hV, hW, hM, hG⟩, hm, hwP, hk, hIH, hIL⟩ := hI
  refine lv_iload_n hx hb dX5_save_0 rfl (lv_at hl 1 rfl) ?_
  refine lv_iconst (v := nI 0) hx hb dX5_save_1 (by decide) ?_
  refine lv_iconst (v := nI 1) hx hb dX5_save_2 (by decide) ?_
  refine xSro C hN (As := [.int x, .int (nI 0), .int (nI 1)]) (rest := []) (c_X5_in xl D kA x (nI 0) (nI 1)) (va_cwS 3 hts gX5_save_X5_in rfl rfl rfl (by decide +kernel) ⟨Nat.le_of_ble_eq_true rfl, Nat.le_of_ble_eq_true rfl⟩) (hP.sub (ws' := []) [] rfl) rfl hl.1 rfl (Nat.le_of_ble_eq_true rfl) dX5_save_3 ⟨Nat.le_of_ble_eq_true rfl, Nat.le_of_ble_eq_true rfl⟩ ?_
  refine xIfNeB C (tgt := 12) dX5_save_6 (by decide) (fun h_6 => ?_) (fun h_6 => ?_)
  · skip
    obtain ⟨i, a_i, b_i, e_i, t_i⟩ := inR_ex h_6 (by decide) (by decide)
    rw [e_i] at hl
    skip
    refine lv_iconst (v := nI 0) hx hb dX5_save_12 (by decide) ?_
    refine lv_istore_n (lv' := [(2, .int (nI 0)), (0, .ref (a 0)), (1, .int (nI i))]) hx hb dX5_save_13 rfl hl (by decide) rfl (fun ls hl => ?_)
    rw [← cpH_0 sl i V] at hP hD
    skip
    have L14 : ∀ (fuel : Nat), ∀ (e : Nat) (hmu : 169 - e < fuel) (he : e ≤ 169) (H : Heap) (locs : List Loc) (_ : va_P D vwCl [((a 0), .inr (5, [.ref (a 1), .ref (a 2), .int (nI kt), .ref (a 3), .ref (a 4), .ref (a 5), .int (nI ln), .ref (a 6), .int (nI td)])), ((a 1), .inl (kA 0, 169, .inl (vI V))), ((a 2), .inl (kA 0, 1014, .inl (hs))), ((a 3), .inl (kA 0, 338, .inl (cpH sl i V e))), ((a 4), .inl (kA 2, 2, .inl (sv))), ((a 5), .inl (kA 0, 60, .inl (pd))), ((a 6), .inl (kA 0, 5, .inl (sg)))] H) (_ : va_D A [((a 0), .inr (5, [.ref (a 1), .ref (a 2), .int (nI kt), .ref (a 3), .ref (a 4), .ref (a 5), .int (nI ln), .ref (a 6), .int (nI td)])), ((a 1), .inl (kA 0, 169, .inl (vI V))), ((a 2), .inl (kA 0, 1014, .inl (hs))), ((a 3), .inl (kA 0, 338, .inl (cpH sl i V e))), ((a 4), .inl (kA 2, 2, .inl (sv))), ((a 5), .inl (kA 0, 60, .inl (pd))), ((a 6), .inl (kA 0, 5, .inl (sg)))]) (_ : va_S A xs.heap H locs) (ls : Array Slot) (_ : lv_has ls 3 [(2, .int (nI e)), (0, .ref (a 0)), (1, .int (nI i))]), W xp xl xe (headSpec wsX5_save { frames := 1, cells := 0, slots := 0, locals := 22 }).room xs xm ([.ref (a 0), .int x] : List Value).toArray xbe xme xc H locs 0 0 (MQ xbe (xQi D A (fun r u => r = (opSave (V, ln, P, kt, HH, HB, LL) x).1 ∧ ModR kA a (opSave (V, ln, P, kt, HH, HB, LL) x).2 u)) ([.ref (a 0), .int x] : List Value).toArray xs 0 0 A) (F0 xm 14 ls []) := by
      intro fuel
      induction fuel with
      | zero => intro e hmu; exact absurd hmu (Nat.not_lt_zero _)
      | succ fuel ih14 =>
        intro e hmu he H locs hP hD hS ls hl
        refine lv_iload_n hx hb dX5_save_14 rfl (lv_at hl 0 rfl) ?_
        refine lv_sipush (v := nI 169) hx hb dX5_save_15 (by decide) ?_
        refine xIcmpGe C (tgt := 45) (by omega) (by decide) dX5_save_18 (by decide) (fun h_18 => ?_) (fun h_18 => ?_)
        · skip
          rw [show e = 169 by omega] at hP hD
          skip
          refine lv_aload_n hx hb dX5_save_45 rfl (lv_at hl 1 rfl) ?_
          refine xGet C hN hP 0 (j := 4) rfl rfl iX5_save_X5 (by decide) kX5_save_19 rfl rfl dX5_save_46 ?_
          refine lv_iload_n hx hb dX5_save_49 rfl (lv_at hl 2 rfl) ?_
          refine lv_iconst (v := nI 1) hx hb dX5_save_50 (by decide) ?_
          refine xZast C hN hP hD hS 4 (j := i) (y := nI 1) rfl (by omega) (by decide) (by decide) dX5_save_51 (fun H locs hP hD hS => ?_)
          have hP : va_P D vwCl [((a 0), .inr (5, [.ref (a 1), .ref (a 2), .int (nI kt), .ref (a 3), .ref (a 4), .ref (a 5), .int (nI ln), .ref (a 6), .int (nI td)])), ((a 1), .inl (kA 0, 169, .inl (vI V))), ((a 2), .inl (kA 0, 1014, .inl (hs))), ((a 3), .inl (kA 0, 338, .inl (cpH sl i V 169))), ((a 4), .inl (kA 2, 2, .inl (upd (sv) (i) (nI 1)))), ((a 5), .inl (kA 0, 60, .inl (pd))), ((a 6), .inl (kA 0, 5, .inl (sg)))] H := hP
          have hD : va_D A [((a 0), .inr (5, [.ref (a 1), .ref (a 2), .int (nI kt), .ref (a 3), .ref (a 4), .ref (a 5), .int (nI ln), .ref (a 6), .int (nI td)])), ((a 1), .inl (kA 0, 169, .inl (vI V))), ((a 2), .inl (kA 0, 1014, .inl (hs))), ((a 3), .inl (kA 0, 338, .inl (cpH sl i V 169))), ((a 4), .inl (kA 2, 2, .inl (upd (sv) (i) (nI 1)))), ((a 5), .inl (kA 0, 60, .inl (pd))), ((a 6), .inl (kA 0, 5, .inl (sg)))] := hD
          refine lv_aload_n hx hb dX5_save_52 rfl (lv_at hl 1 rfl) ?_
          refine xGet C hN hP 0 (j := 0) rfl rfl iX5_save_X5 (by decide) kX5_save_7 rfl rfl dX5_save_53 ?_
          refine lv_iconst (v := nI 0) hx hb dX5_save_56 (by decide) ?_
          refine xIald C hN hP 1 (j := 0) (v := nI (V 0)) rfl (by omega) (by decide) (rfl) dX5_save_57 ?_
          exact xRetI hx hb hret (v := nI (V 0)) (retS (S2 := (V, ln, P, kt, HH, (setB HB i), (setL LL i V))) (by simp [opSave, h_6, t_i, h_18]) ⟨hs, cpH sl i V 169, upd (sv) (i) (nI 1), pd, sg, td, rfl, hH, hpd, (relS_save (by omega) hsv)⟩) hP hD hS dX5_save_58 hlocks
        · skip
          refine lv_aload_n hx hb dX5_save_21 rfl (lv_at hl 1 rfl) ?_
          refine xGet C hN hP 0 (j := 3) rfl rfl iX5_save_X5 (by decide) kX5_save_16 rfl rfl dX5_save_22 ?_
          refine lv_sipush (v := nI 169) hx hb dX5_save_25 (by decide) ?_
          refine lv_iload_n hx hb dX5_save_28 rfl (lv_at hl 2 rfl) ?_
          refine xImul C dX5_save_29 ?_
          refine lv_iload_n hx hb dX5_save_30 rfl (lv_at hl 0 rfl) ?_
          refine xIadd C dX5_save_31 ?_
          refine lv_aload_n hx hb dX5_save_32 rfl (lv_at hl 1 rfl) ?_
          refine xGet C hN hP 0 (j := 0) rfl rfl iX5_save_X5 (by decide) kX5_save_7 rfl rfl dX5_save_33 ?_
          refine lv_iload_n hx hb dX5_save_36 rfl (lv_at hl 0 rfl) ?_
          refine xIald C hN hP 1 (j := e) (v := nI (V e)) rfl (by omega) (by decide) (rfl) dX5_save_37 ?_
          refine xIast C hN hP hD hS 3 (j := (169 * i) + e) rfl (by omega) (by decide) dX5_save_38 (fun H locs hP hD hS => ?_)
          rw [show upd (cpH sl i V e) ((169 * i) + e) (nI (V e)) = cpH sl i V (e + 1) from cpH_s sl i V e] at hP hD
          have hP : va_P D vwCl [((a 0), .inr (5, [.ref (a 1), .ref (a 2), .int (nI kt), .ref (a 3), .ref (a 4), .ref (a 5), .int (nI ln), .ref (a 6), .int (nI td)])), ((a 1), .inl (kA 0, 169, .inl (vI V))), ((a 2), .inl (kA 0, 1014, .inl (hs))), ((a 3), .inl (kA 0, 338, .inl (cpH sl i V (e + 1)))), ((a 4), .inl (kA 2, 2, .inl (sv))), ((a 5), .inl (kA 0, 60, .inl (pd))), ((a 6), .inl (kA 0, 5, .inl (sg)))] H := hP
          have hD : va_D A [((a 0), .inr (5, [.ref (a 1), .ref (a 2), .int (nI kt), .ref (a 3), .ref (a 4), .ref (a 5), .int (nI ln), .ref (a 6), .int (nI td)])), ((a 1), .inl (kA 0, 169, .inl (vI V))), ((a 2), .inl (kA 0, 1014, .inl (hs))), ((a 3), .inl (kA 0, 338, .inl (cpH sl i V (e + 1)))), ((a 4), .inl (kA 2, 2, .inl (sv))), ((a 5), .inl (kA 0, 60, .inl (pd))), ((a 6), .inl (kA 0, 5, .inl (sg)))] := hD
          refine xIinc C (kx := 0) (d := 1) (lv' := [(2, .int (nI (e + 1))), (0, .ref (a 0)), (1, .int (nI i))]) dX5_save_39 hl rfl (by decide) (by decide) rfl (fun ls hl => ?_)
          refine lv_goto (tgt := 14) hx hb dX5_save_42 (by decide) ?_
          have hP : va_P D vwCl [((a 0), .inr (5, [.ref (a 1), .ref (a 2), .int (nI kt), .ref (a 3), .ref (a 4), .ref (a 5), .int (nI ln), .ref (a 6), .int (nI td)])), ((a 1), .inl (kA 0, 169, .inl (vI V))), ((a 2), .inl (kA 0, 1014, .inl (hs))), ((a 3), .inl (kA 0, 338, .inl (cpH sl i V (e + 1)))), ((a 4), .inl (kA 2, 2, .inl (sv))), ((a 5), .inl (kA 0, 60, .inl (pd))), ((a 6), .inl (kA 0, 5, .inl (sg)))] H := hP
          exact ih14 (e + 1) (by omega) (by omega) _ _ hP hD hS _ (lv_sub hl [0, 1, 2] rfl)
    exact L14 _ 0 (Nat.lt_succ_self _) (by omega) _ _ hP hD hS _ (lv_sub hl [0, 1, 2] rfl)
  · skip
    refine lv_bipush (v := (-2)) hx hb dX5_save_9 (by decide) ?_
    exact xRetI hx hb hret (v := (-2)) (retS (S2 := (V, ln, P, kt, HH, HB, LL)) (by simp [opSave, h_6]) ⟨hs, sl, sv, pd, sg, td, rfl, hH, hpd, hsv⟩) hP hD hS dX5_save_11 hlocks

set_option maxHeartbeats 8000000 in
set_option maxRecDepth 100000 in
theorem c_X5_restore (xl : Launch) (D : va_G) (kA : Nat → ClassId) (a : Nat → Nat) (V : Nat → Nat) (hs sl sv pd sg : Nat → Int32) (kt ln td : Nat) (P : Nat → Nat) (HH : Nat → Nat → Nat) (HB : Nat → Bool) (LL : Nat → Nat → Nat) (hI : InvS (V, ln, P, kt, HH, HB, LL)) (hH : relH hs kt HH) (hpd : relP pd ln P) (hsv : relS sv sl HB LL) (x : Int32) (A : Nat → Prop) : Met xl yX5_restore wsX5_restore { frames := 1, cells := 0, slots := 0, locals := 22 } (va_Pc [.ref (a 0), .int x] (xPw D kA A [((a 0), .inr (5, [.ref (a 1), .ref (a 2), .int (nI kt), .ref (a 3), .ref (a 4), .ref (a 5), .int (nI ln), .ref (a 6), .int (nI td)])), ((a 1), .inl (kA 0, 169, .inl (vI V))), ((a 2), .inl (kA 0, 1014, .inl (hs))), ((a 3), .inl (kA 0, 338, .inl (sl))), ((a 4), .inl (kA 2, 2, .inl (sv))), ((a 5), .inl (kA 0, 60, .inl (pd))), ((a 6), .inl (kA 0, 5, .inl (sg)))])) (xQi D A (fun r u => r = (opRestore (V, ln, P, kt, HH, HB, LL) x).1 ∧ ModR kA a (opRestore (V, ln, P, kt, HH, HB, LL) x).2 u)) 0 0 A := by
  refine Met.ofW (cc := cX5_restore) (maxL := 3) (ret := (some .int)) (by decide) rfl ?_
  intro xp xe xs xm args xbe xme xc s₁ B hml hv
  obtain ⟨rfl, hP, hN, hD, hA⟩ := hv
  have hret := B.returns
  have C : CallFix xp xm xc cX5_restore 3 xs ([.ref (a 0), .int x] : List Value).toArray wsX5_restore RX5 := ⟨B.exec, B.bytes, hml, findClass_of_methodNamed B.named, atoms_spec (ws := wsX5_restore) B.pre⟩
  have hlocks := B.notSynchronized
  obtain ⟨hx, hb, _, hown, hts⟩ := id C
  have hS : va_S A xs.heap xs.heap [] := va_S.rf
  have hl := lv_entry ([.ref (a 0), .int x]) (n := 3) (Nat.le_of_ble_eq_true rfl)
  rw [lg_entry_eq]
  generalize (lg_sl ([.ref (a 0), .int x]) ++ List.replicate (3 - (lg_sl ([.ref (a 0), .int x])).length) Slot.unset).toArray = ls at hl ⊢
  have hl : lv_has ls 3 [(0, .ref (a 0)), (1, .int x)] := hl
  obtain ⟨⟨hV, hW, hM, hG⟩, hm, hwP, hk, hIH, hIL⟩ := hI
  refine lv_iload_n hx hb dX5_restore_0 rfl (lv_at hl 1 rfl) ?_
  refine lv_iconst (v := nI 0) hx hb dX5_restore_1 (by decide) ?_
  refine lv_iconst (v := nI 1) hx hb dX5_restore_2 (by decide) ?_
  refine xSro C hN (As := [.int x, .int (nI 0), .int (nI 1)]) (rest := []) (c_X5_in xl D kA x (nI 0) (nI 1)) (va_cwS 3 hts gX5_restore_X5_in rfl rfl rfl (by decide +kernel) ⟨Nat.le_of_ble_eq_true rfl, Nat.le_of_ble_eq_true rfl⟩) (hP.sub (ws' := []) [] rfl) rfl hl.1 rfl (Nat.le_of_ble_eq_true rfl) dX5_restore_3 ⟨Nat.le_of_ble_eq_true rfl, Nat.le_of_ble_eq_true rfl⟩ ?_
  refine xIfNeB C (tgt := 12) dX5_restore_6 (by decide) (fun h_6 => ?_) (fun h_6 => ?_)
  · skip
    obtain ⟨i, a_i, b_i, e_i, t_i⟩ := inR_ex h_6 (by decide) (by decide)
    rw [e_i] at hl
    skip
    refine lv_aload_n hx hb dX5_restore_12 rfl (lv_at hl 0 rfl) ?_
    refine xGet C hN hP 0 (j := 4) rfl rfl iX5_restore_X5 (by decide) kX5_restore_19 rfl rfl dX5_restore_13 ?_
    refine lv_iload_n hx hb dX5_restore_16 rfl (lv_at hl 1 rfl) ?_
    refine xZald C hN hP 4 (j := i) (v := bI (HB i)) rfl (by omega) (by decide) ((hsv i (by omega)).1) dX5_restore_17 ?_
    refine xIfNeB C (tgt := 24) dX5_restore_18 (by decide) (fun h_18 => ?_) (fun h_18 => ?_)
    · skip
      refine lv_aload_n hx hb dX5_restore_24 rfl (lv_at hl 0 rfl) ?_
      refine xWWv hS (va_runV (As := []) (rest := []) C (c_X5_record xl D kA a V hs sl sv pd sg kt ln td HH hH hk A) (cwV 0 hts gX5_restore_X5_record rfl rfl rfl (by decide +kernel) ⟨Nat.le_of_ble_eq_true rfl, Nat.le_of_ble_eq_true rfl⟩) (xPreVw (q0 := 0) hN hP hD (xAll hS hA) rfl rfl rfl) rfl rfl hl.1 rfl (lv_room (Nat.le_of_ble_eq_true rfl)) dX5_restore_25 ⟨Nat.le_of_ble_eq_true rfl, Nat.le_of_ble_eq_true rfl⟩) (fun u_25 H locs hq_25 hP hD hS => ?_)
      obtain ⟨h_r, rfl, hh_r⟩ := hq_25
      have hP : va_P D vwCl [((a 0), .inr (5, [.ref (a 1), .ref (a 2), .int (nI (pushN kt)), .ref (a 3), .ref (a 4), .ref (a 5), .int (nI ln), .ref (a 6), .int (nI td)])), ((a 1), .inl (kA 0, 169, .inl (vI V))), ((a 2), .inl (kA 0, 1014, .inl (h_r))), ((a 3), .inl (kA 0, 338, .inl (sl))), ((a 4), .inl (kA 2, 2, .inl (sv))), ((a 5), .inl (kA 0, 60, .inl (pd))), ((a 6), .inl (kA 0, 5, .inl (sg)))] H := hP
      have hD : va_D A [((a 0), .inr (5, [.ref (a 1), .ref (a 2), .int (nI (pushN kt)), .ref (a 3), .ref (a 4), .ref (a 5), .int (nI ln), .ref (a 6), .int (nI td)])), ((a 1), .inl (kA 0, 169, .inl (vI V))), ((a 2), .inl (kA 0, 1014, .inl (h_r))), ((a 3), .inl (kA 0, 338, .inl (sl))), ((a 4), .inl (kA 2, 2, .inl (sv))), ((a 5), .inl (kA 0, 60, .inl (pd))), ((a 6), .inl (kA 0, 5, .inl (sg)))] := hD
      refine lv_iconst (v := nI 0) hx hb dX5_restore_28 (by decide) ?_
      refine lv_istore_n (lv' := [(2, .int (nI 0)), (0, .ref (a 0)), (1, .int (nI i))]) hx hb dX5_restore_29 rfl hl (by decide) rfl (fun ls hl => ?_)
      rw [← mixV_0 V (LL i)] at hP hD
      skip
      have L30 : ∀ (fuel : Nat), ∀ (e : Nat) (hmu : 169 - e < fuel) (he : e ≤ 169) (H : Heap) (locs : List Loc) (_ : va_P D vwCl [((a 0), .inr (5, [.ref (a 1), .ref (a 2), .int (nI (pushN kt)), .ref (a 3), .ref (a 4), .ref (a 5), .int (nI ln), .ref (a 6), .int (nI td)])), ((a 1), .inl (kA 0, 169, .inl (vI (mixV V (LL i) e)))), ((a 2), .inl (kA 0, 1014, .inl (h_r))), ((a 3), .inl (kA 0, 338, .inl (sl))), ((a 4), .inl (kA 2, 2, .inl (sv))), ((a 5), .inl (kA 0, 60, .inl (pd))), ((a 6), .inl (kA 0, 5, .inl (sg)))] H) (_ : va_D A [((a 0), .inr (5, [.ref (a 1), .ref (a 2), .int (nI (pushN kt)), .ref (a 3), .ref (a 4), .ref (a 5), .int (nI ln), .ref (a 6), .int (nI td)])), ((a 1), .inl (kA 0, 169, .inl (vI (mixV V (LL i) e)))), ((a 2), .inl (kA 0, 1014, .inl (h_r))), ((a 3), .inl (kA 0, 338, .inl (sl))), ((a 4), .inl (kA 2, 2, .inl (sv))), ((a 5), .inl (kA 0, 60, .inl (pd))), ((a 6), .inl (kA 0, 5, .inl (sg)))]) (_ : va_S A xs.heap H locs) (ls : Array Slot) (_ : lv_has ls 3 [(2, .int (nI e)), (0, .ref (a 0)), (1, .int (nI i))]), W xp xl xe (headSpec wsX5_restore { frames := 1, cells := 0, slots := 0, locals := 22 }).room xs xm ([.ref (a 0), .int x] : List Value).toArray xbe xme xc H locs 0 0 (MQ xbe (xQi D A (fun r u => r = (opRestore (V, ln, P, kt, HH, HB, LL) x).1 ∧ ModR kA a (opRestore (V, ln, P, kt, HH, HB, LL) x).2 u)) ([.ref (a 0), .int x] : List Value).toArray xs 0 0 A) (F0 xm 30 ls []) := by
        intro fuel
        induction fuel with
        | zero => intro e hmu; exact absurd hmu (Nat.not_lt_zero _)
        | succ fuel ih30 =>
          intro e hmu he H locs hP hD hS ls hl
          refine lv_iload_n hx hb dX5_restore_30 rfl (lv_at hl 0 rfl) ?_
          refine lv_sipush (v := nI 169) hx hb dX5_restore_31 (by decide) ?_
          refine xIcmpGe C (tgt := 61) (by omega) (by decide) dX5_restore_34 (by decide) (fun h_34 => ?_) (fun h_34 => ?_)
          · skip
            have hP := xCellP (p := 1) (g := vI (LL i)) hP rfl (mixV_e (by omega))
            have hD := xCellD (p := 1) (g := vI (LL i)) hD rfl
            skip
            have hP : va_P D vwCl [((a 0), .inr (5, [.ref (a 1), .ref (a 2), .int (nI (pushN kt)), .ref (a 3), .ref (a 4), .ref (a 5), .int (nI ln), .ref (a 6), .int (nI td)])), ((a 1), .inl (kA 0, 169, .inl (vI (LL i)))), ((a 2), .inl (kA 0, 1014, .inl (h_r))), ((a 3), .inl (kA 0, 338, .inl (sl))), ((a 4), .inl (kA 2, 2, .inl (sv))), ((a 5), .inl (kA 0, 60, .inl (pd))), ((a 6), .inl (kA 0, 5, .inl (sg)))] _ := hP
            have hD : va_D A [((a 0), .inr (5, [.ref (a 1), .ref (a 2), .int (nI (pushN kt)), .ref (a 3), .ref (a 4), .ref (a 5), .int (nI ln), .ref (a 6), .int (nI td)])), ((a 1), .inl (kA 0, 169, .inl (vI (LL i)))), ((a 2), .inl (kA 0, 1014, .inl (h_r))), ((a 3), .inl (kA 0, 338, .inl (sl))), ((a 4), .inl (kA 2, 2, .inl (sv))), ((a 5), .inl (kA 0, 60, .inl (pd))), ((a 6), .inl (kA 0, 5, .inl (sg)))] := hD
            refine lv_aload_n hx hb dX5_restore_61 rfl (lv_at hl 1 rfl) ?_
            refine xGet C hN hP 0 (j := 0) rfl rfl iX5_restore_X5 (by decide) kX5_restore_7 rfl rfl dX5_restore_62 ?_
            refine lv_iconst (v := nI 0) hx hb dX5_restore_65 (by decide) ?_
            refine xIald C hN hP 1 (j := 0) (v := nI ((LL i) 0)) rfl (by omega) (by decide) (rfl) dX5_restore_66 ?_
            exact xRetI hx hb hret (v := nI ((LL i) 0)) (retS (S2 := ((LL i), ln, P, (pushN kt), (pushH HH kt V), HB, LL)) (by simp [opRestore, h_6, t_i, h_18, h_34]) ⟨h_r, sl, sv, pd, sg, td, rfl, hh_r, hpd, hsv⟩) hP hD hS dX5_restore_67 hlocks
          · skip
            refine lv_aload_n hx hb dX5_restore_37 rfl (lv_at hl 1 rfl) ?_
            refine xGet C hN hP 0 (j := 0) rfl rfl iX5_restore_X5 (by decide) kX5_restore_7 rfl rfl dX5_restore_38 ?_
            refine lv_iload_n hx hb dX5_restore_41 rfl (lv_at hl 0 rfl) ?_
            refine lv_aload_n hx hb dX5_restore_42 rfl (lv_at hl 1 rfl) ?_
            refine xGet C hN hP 0 (j := 3) rfl rfl iX5_restore_X5 (by decide) kX5_restore_16 rfl rfl dX5_restore_43 ?_
            refine lv_sipush (v := nI 169) hx hb dX5_restore_46 (by decide) ?_
            refine lv_iload_n hx hb dX5_restore_49 rfl (lv_at hl 2 rfl) ?_
            refine xImul C dX5_restore_50 ?_
            refine lv_iload_n hx hb dX5_restore_51 rfl (lv_at hl 0 rfl) ?_
            refine xIadd C dX5_restore_52 ?_
            refine xIald C hN hP 3 (j := (169 * i) + e) (v := nI (LL i e)) rfl (by omega) (by decide) ((hsv i (by omega)).2 h_18 e (by omega)) dX5_restore_53 ?_
            refine xIast C hN hP hD hS 1 (j := e) rfl (by omega) (by decide) dX5_restore_54 (fun H locs hP hD hS => ?_)
            rw [show upd (vI (mixV V (LL i) e)) (e) (nI (LL i e)) = vI (mixV V (LL i) (e + 1)) from by rw [upd_vI, mixV_s]] at hP hD
            have hP : va_P D vwCl [((a 0), .inr (5, [.ref (a 1), .ref (a 2), .int (nI (pushN kt)), .ref (a 3), .ref (a 4), .ref (a 5), .int (nI ln), .ref (a 6), .int (nI td)])), ((a 1), .inl (kA 0, 169, .inl (vI (mixV V (LL i) (e + 1))))), ((a 2), .inl (kA 0, 1014, .inl (h_r))), ((a 3), .inl (kA 0, 338, .inl (sl))), ((a 4), .inl (kA 2, 2, .inl (sv))), ((a 5), .inl (kA 0, 60, .inl (pd))), ((a 6), .inl (kA 0, 5, .inl (sg)))] H := hP
            have hD : va_D A [((a 0), .inr (5, [.ref (a 1), .ref (a 2), .int (nI (pushN kt)), .ref (a 3), .ref (a 4), .ref (a 5), .int (nI ln), .ref (a 6), .int (nI td)])), ((a 1), .inl (kA 0, 169, .inl (vI (mixV V (LL i) (e + 1))))), ((a 2), .inl (kA 0, 1014, .inl (h_r))), ((a 3), .inl (kA 0, 338, .inl (sl))), ((a 4), .inl (kA 2, 2, .inl (sv))), ((a 5), .inl (kA 0, 60, .inl (pd))), ((a 6), .inl (kA 0, 5, .inl (sg)))] := hD
            refine xIinc C (kx := 0) (d := 1) (lv' := [(2, .int (nI (e + 1))), (0, .ref (a 0)), (1, .int (nI i))]) dX5_restore_55 hl rfl (by decide) (by decide) rfl (fun ls hl => ?_)
            refine lv_goto (tgt := 30) hx hb dX5_restore_58 (by decide) ?_
            have hP : va_P D vwCl [((a 0), .inr (5, [.ref (a 1), .ref (a 2), .int (nI (pushN kt)), .ref (a 3), .ref (a 4), .ref (a 5), .int (nI ln), .ref (a 6), .int (nI td)])), ((a 1), .inl (kA 0, 169, .inl (vI (mixV V (LL i) (e + 1))))), ((a 2), .inl (kA 0, 1014, .inl (h_r))), ((a 3), .inl (kA 0, 338, .inl (sl))), ((a 4), .inl (kA 2, 2, .inl (sv))), ((a 5), .inl (kA 0, 60, .inl (pd))), ((a 6), .inl (kA 0, 5, .inl (sg)))] H := hP
            exact ih30 (e + 1) (by omega) (by omega) _ _ hP hD hS _ (lv_sub hl [0, 1, 2] rfl)
      exact L30 _ 0 (Nat.lt_succ_self _) (by omega) _ _ hP hD hS _ (lv_sub hl [0, 1, 2] rfl)
    · skip
      refine lv_bipush (v := (-5)) hx hb dX5_restore_21 (by decide) ?_
      exact xRetI hx hb hret (v := (-5)) (retS (S2 := (V, ln, P, kt, HH, HB, LL)) (by simp [opRestore, h_6, t_i, h_18]) ⟨hs, sl, sv, pd, sg, td, rfl, hH, hpd, hsv⟩) hP hD hS dX5_restore_23 hlocks
  · skip
    refine lv_bipush (v := (-2)) hx hb dX5_restore_9 (by decide) ?_
    exact xRetI hx hb hret (v := (-2)) (retS (S2 := (V, ln, P, kt, HH, HB, LL)) (by simp [opRestore, h_6]) ⟨hs, sl, sv, pd, sg, td, rfl, hH, hpd, hsv⟩) hP hD hS dX5_restore_11 hlocks

set_option maxHeartbeats 8000000 in
set_option maxRecDepth 100000 in
theorem c_X5_read (xl : Launch) (D : va_G) (kA : Nat → ClassId) (a : Nat → Nat) (V : Nat → Nat) (hs sl sv pd sg : Nat → Int32) (kt ln td : Nat) (P : Nat → Nat) (HH : Nat → Nat → Nat) (HB : Nat → Bool) (LL : Nat → Nat → Nat) (hI : InvS (V, ln, P, kt, HH, HB, LL)) (hH : relH hs kt HH) (hpd : relP pd ln P) (hsv : relS sv sl HB LL) (A : Nat → Prop) : Met xl yX5_read wsX5_read { frames := 3, cells := 0, slots := 0, locals := 67 } (va_Pc [.ref (a 0)] (xPw D kA A [((a 0), .inr (5, [.ref (a 1), .ref (a 2), .int (nI kt), .ref (a 3), .ref (a 4), .ref (a 5), .int (nI ln), .ref (a 6), .int (nI td)])), ((a 1), .inl (kA 0, 169, .inl (vI V))), ((a 2), .inl (kA 0, 1014, .inl (hs))), ((a 3), .inl (kA 0, 338, .inl (sl))), ((a 4), .inl (kA 2, 2, .inl (sv))), ((a 5), .inl (kA 0, 60, .inl (pd))), ((a 6), .inl (kA 0, 5, .inl (sg)))])) (xQi D A (fun r u => r = (opRead (V, ln, P, kt, HH, HB, LL) ).1 ∧ ModR kA a (opRead (V, ln, P, kt, HH, HB, LL) ).2 u)) 0 0 A := by
  refine Met.ofW (cc := cX5_read) (maxL := 6) (ret := (some .int)) (by decide) rfl ?_
  intro xp xe xs xm args xbe xme xc s₁ B hml hv
  obtain ⟨rfl, hP, hN, hD, hA⟩ := hv
  have hret := B.returns
  have C : CallFix xp xm xc cX5_read 6 xs ([.ref (a 0)] : List Value).toArray wsX5_read RX5 := ⟨B.exec, B.bytes, hml, findClass_of_methodNamed B.named, atoms_spec (ws := wsX5_read) B.pre⟩
  have hlocks := B.notSynchronized
  obtain ⟨hx, hb, _, hown, hts⟩ := id C
  have hS : va_S A xs.heap xs.heap [] := va_S.rf
  have hl := lv_entry ([.ref (a 0)]) (n := 6) (Nat.le_of_ble_eq_true rfl)
  rw [lg_entry_eq]
  generalize (lg_sl ([.ref (a 0)]) ++ List.replicate (6 - (lg_sl ([.ref (a 0)])).length) Slot.unset).toArray = ls at hl ⊢
  have hl : lv_has ls 6 [(0, .ref (a 0))] := hl
  obtain ⟨⟨hV, hW, hM, hG⟩, hm, hwP, hk, hIH, hIL⟩ := hI
  refine lv_aload_n hx hb dX5_read_0 rfl (lv_at hl 0 rfl) ?_
  refine xWWi hS (va_runV (As := []) (rest := []) C (c_X5_wrong xl D kA a V hs sl sv pd sg kt ln td P hpd hm hwP A) (cwV 0 hts gX5_read_X5_wrong rfl rfl rfl (by decide +kernel) ⟨Nat.le_of_ble_eq_true rfl, Nat.le_of_ble_eq_true rfl⟩) (xPreVw (q0 := 0) hN hP hD (xAll hS hA) rfl rfl rfl) rfl rfl hl.1 rfl (lv_room (Nat.le_of_ble_eq_true rfl)) dX5_read_1 ⟨Nat.le_of_ble_eq_true rfl, Nat.le_of_ble_eq_true rfl⟩) (fun r_1 u_1 H locs hq_1 hP hD hS => ?_)
  obtain ⟨rfl, rfl⟩ := hq_1
  have hP : va_P D vwCl [((a 0), .inr (5, [.ref (a 1), .ref (a 2), .int (nI kt), .ref (a 3), .ref (a 4), .ref (a 5), .int (nI ln), .ref (a 6), .int (nI ((wrK ln P 61 0 0).2))])), ((a 1), .inl (kA 0, 169, .inl (vI V))), ((a 2), .inl (kA 0, 1014, .inl (hs))), ((a 3), .inl (kA 0, 338, .inl (sl))), ((a 4), .inl (kA 2, 2, .inl (sv))), ((a 5), .inl (kA 0, 60, .inl (pd))), ((a 6), .inl (kA 0, 5, .inl (sg)))] H := hP
  have hD : va_D A [((a 0), .inr (5, [.ref (a 1), .ref (a 2), .int (nI kt), .ref (a 3), .ref (a 4), .ref (a 5), .int (nI ln), .ref (a 6), .int (nI ((wrK ln P 61 0 0).2))])), ((a 1), .inl (kA 0, 169, .inl (vI V))), ((a 2), .inl (kA 0, 1014, .inl (hs))), ((a 3), .inl (kA 0, 338, .inl (sl))), ((a 4), .inl (kA 2, 2, .inl (sv))), ((a 5), .inl (kA 0, 60, .inl (pd))), ((a 6), .inl (kA 0, 5, .inl (sg)))] := hD
  refine lv_bipush (v := (-6)) hx hb dX5_read_4 (by decide) ?_
  refine lv_icmp_eq (tgt := 12) hx hb dX5_read_6 (by decide) (fun h_6 => ?_) (fun h_6 => ?_)
  · skip
    refine lv_aload_n hx hb dX5_read_12 rfl (lv_at hl 0 rfl) ?_
    refine xGet C hN hP 0 (j := 0) rfl rfl iX5_read_X5 (by decide) kX5_read_7 rfl rfl dX5_read_13 ?_
    refine lv_iconst (v := nI 0) hx hb dX5_read_16 (by decide) ?_
    refine xIald C hN hP 1 (j := 0) (v := nI (V 0)) rfl (by omega) (by decide) (rfl) dX5_read_17 ?_
    refine lv_aload_n hx hb dX5_read_18 rfl (lv_at hl 0 rfl) ?_
    refine xGet C hN hP 0 (j := 8) rfl rfl iX5_read_X5 (by decide) kX5_read_129 rfl rfl dX5_read_19 ?_
    refine xTop (y := nI (nrK ln P 61 0)) (congrArg nI (by rw [wr_told, Nat.zero_add])) ?_
    refine xIadd C dX5_read_22 ?_
    refine lv_bipush (v := nI 24) hx hb dX5_read_23 (by decide) ?_
    refine xIcmpLe C (tgt := 31) (by have := nrK_le (m := ln) (P := P) 61 0; omega) (by decide) dX5_read_25 (by decide) (fun h_25 => ?_) (fun h_25 => ?_)
    · skip
      have g_25 : ¬ 24 < V 0 + nrK ln P 61 0 := by omega
      skip
      refine lv_aload_n hx hb dX5_read_31 rfl (lv_at hl 0 rfl) ?_
      refine xWWv hS (va_runV (As := []) (rest := []) C (c_X5_record xl D kA a V hs sl sv pd sg kt ln ((wrK ln P 61 0 0).2) HH hH hk A) (cwV 0 hts gX5_read_X5_record rfl rfl rfl (by decide +kernel) ⟨Nat.le_of_ble_eq_true rfl, Nat.le_of_ble_eq_true rfl⟩) (xPreVw (q0 := 0) hN hP hD (xAll hS hA) rfl rfl rfl) rfl rfl hl.1 rfl (lv_room (Nat.le_of_ble_eq_true rfl)) dX5_read_32 ⟨Nat.le_of_ble_eq_true rfl, Nat.le_of_ble_eq_true rfl⟩) (fun u_32 H locs hq_32 hP hD hS => ?_)
      obtain ⟨h_r, rfl, hh_r⟩ := hq_32
      have hP : va_P D vwCl [((a 0), .inr (5, [.ref (a 1), .ref (a 2), .int (nI (pushN kt)), .ref (a 3), .ref (a 4), .ref (a 5), .int (nI ln), .ref (a 6), .int (nI ((wrK ln P 61 0 0).2))])), ((a 1), .inl (kA 0, 169, .inl (vI V))), ((a 2), .inl (kA 0, 1014, .inl (h_r))), ((a 3), .inl (kA 0, 338, .inl (sl))), ((a 4), .inl (kA 2, 2, .inl (sv))), ((a 5), .inl (kA 0, 60, .inl (pd))), ((a 6), .inl (kA 0, 5, .inl (sg)))] H := hP
      have hD : va_D A [((a 0), .inr (5, [.ref (a 1), .ref (a 2), .int (nI (pushN kt)), .ref (a 3), .ref (a 4), .ref (a 5), .int (nI ln), .ref (a 6), .int (nI ((wrK ln P 61 0 0).2))])), ((a 1), .inl (kA 0, 169, .inl (vI V))), ((a 2), .inl (kA 0, 1014, .inl (h_r))), ((a 3), .inl (kA 0, 338, .inl (sl))), ((a 4), .inl (kA 2, 2, .inl (sv))), ((a 5), .inl (kA 0, 60, .inl (pd))), ((a 6), .inl (kA 0, 5, .inl (sg)))] := hD
      refine lv_iconst (v := nI 0) hx hb dX5_read_35 (by decide) ?_
      refine lv_istore_n (lv' := [(1, .int (nI 0)), (0, .ref (a 0))]) hx hb dX5_read_36 rfl hl (by decide) rfl (fun ls hl => ?_)
      have L37 : ∀ (fuel : Nat), ∀ (p : Nat) (kk : Nat) (U : Nat → Nat) (hmu : ln - p < fuel) (hkk : ln < p + kk) (hp60 : p ≤ ln + 1) (hst : p < ln → (∃ t, (wrK ln P kk p t).1 = -6) ∧ U 0 + nrK ln P kk p ≤ 24) (hU24 : U 0 ≤ 24) (hrd : rdK ln P kk p U = rdK ln P 61 0 V) (H : Heap) (locs : List Loc) (_ : va_P D vwCl [((a 0), .inr (5, [.ref (a 1), .ref (a 2), .int (nI (pushN kt)), .ref (a 3), .ref (a 4), .ref (a 5), .int (nI ln), .ref (a 6), .int (nI ((wrK ln P 61 0 0).2))])), ((a 1), .inl (kA 0, 169, .inl (vI U))), ((a 2), .inl (kA 0, 1014, .inl (h_r))), ((a 3), .inl (kA 0, 338, .inl (sl))), ((a 4), .inl (kA 2, 2, .inl (sv))), ((a 5), .inl (kA 0, 60, .inl (pd))), ((a 6), .inl (kA 0, 5, .inl (sg)))] H) (_ : va_D A [((a 0), .inr (5, [.ref (a 1), .ref (a 2), .int (nI (pushN kt)), .ref (a 3), .ref (a 4), .ref (a 5), .int (nI ln), .ref (a 6), .int (nI ((wrK ln P 61 0 0).2))])), ((a 1), .inl (kA 0, 169, .inl (vI U))), ((a 2), .inl (kA 0, 1014, .inl (h_r))), ((a 3), .inl (kA 0, 338, .inl (sl))), ((a 4), .inl (kA 2, 2, .inl (sv))), ((a 5), .inl (kA 0, 60, .inl (pd))), ((a 6), .inl (kA 0, 5, .inl (sg)))]) (_ : va_S A xs.heap H locs) (ls : Array Slot) (_ : lv_has ls 6 [(1, .int (nI p)), (0, .ref (a 0))]), W xp xl xe (headSpec wsX5_read { frames := 3, cells := 0, slots := 0, locals := 67 }).room xs xm ([.ref (a 0)] : List Value).toArray xbe xme xc H locs 0 0 (MQ xbe (xQi D A (fun r u => r = (opRead (V, ln, P, kt, HH, HB, LL) ).1 ∧ ModR kA a (opRead (V, ln, P, kt, HH, HB, LL) ).2 u)) ([.ref (a 0)] : List Value).toArray xs 0 0 A) (F0 xm 37 ls []) := by
        intro fuel
        induction fuel with
        | zero => intro p kk U hmu; exact absurd hmu (Nat.not_lt_zero _)
        | succ fuel ih37 =>
          intro p kk U hmu hkk hp60 hst hU24 hrd H locs hP hD hS ls hl
          refine lv_iload_n hx hb dX5_read_37 rfl (lv_at hl 0 rfl) ?_
          refine lv_aload_n hx hb dX5_read_38 rfl (lv_at hl 1 rfl) ?_
          refine xGet C hN hP 0 (j := 6) rfl rfl iX5_read_X5 (by decide) kX5_read_118 rfl rfl dX5_read_39 ?_
          refine xIcmpGe C (tgt := 162) (by omega) (by omega) dX5_read_42 (by decide) (fun h_42 => ?_) (fun h_42 => ?_)
          · skip
            have eU : rdK ln P 61 0 V = U := by rw [← hrd, rd_e h_42]
            refine lv_aload_n hx hb dX5_read_162 rfl (lv_at hl 1 rfl) ?_
            refine lv_iconst (v := nI 0) hx hb dX5_read_163 (by decide) ?_
            refine xPut C hN hP hD hS 0 (j := 6) (v := .int (nI 0)) rfl rfl iX5_read_X5 tyX5_ok nmX5 (by decide) kX5_read_118 rfl rfl rfl rfl (Nat.le_of_ble_eq_true rfl) dX5_read_164 (fun H locs hP hD hS => ?_)
            have hP : va_P D vwCl [((a 0), .inr (5, [.ref (a 1), .ref (a 2), .int (nI (pushN kt)), .ref (a 3), .ref (a 4), .ref (a 5), .int (nI 0), .ref (a 6), .int (nI ((wrK ln P 61 0 0).2))])), ((a 1), .inl (kA 0, 169, .inl (vI U))), ((a 2), .inl (kA 0, 1014, .inl (h_r))), ((a 3), .inl (kA 0, 338, .inl (sl))), ((a 4), .inl (kA 2, 2, .inl (sv))), ((a 5), .inl (kA 0, 60, .inl (pd))), ((a 6), .inl (kA 0, 5, .inl (sg)))] H := hP
            have hD : va_D A [((a 0), .inr (5, [.ref (a 1), .ref (a 2), .int (nI (pushN kt)), .ref (a 3), .ref (a 4), .ref (a 5), .int (nI 0), .ref (a 6), .int (nI ((wrK ln P 61 0 0).2))])), ((a 1), .inl (kA 0, 169, .inl (vI U))), ((a 2), .inl (kA 0, 1014, .inl (h_r))), ((a 3), .inl (kA 0, 338, .inl (sl))), ((a 4), .inl (kA 2, 2, .inl (sv))), ((a 5), .inl (kA 0, 60, .inl (pd))), ((a 6), .inl (kA 0, 5, .inl (sg)))] := hD
            refine lv_aload_n hx hb dX5_read_167 rfl (lv_at hl 1 rfl) ?_
            refine xGet C hN hP 0 (j := 0) rfl rfl iX5_read_X5 (by decide) kX5_read_7 rfl rfl dX5_read_168 ?_
            refine lv_iconst (v := nI 0) hx hb dX5_read_171 (by decide) ?_
            refine xIald C hN hP 1 (j := 0) (v := nI (U 0)) rfl (by omega) (by decide) (rfl) dX5_read_172 ?_
            exact xRetI hx hb hret (v := nI (U 0)) (retS (S2 := (U, 0, P, (pushN kt), (pushH HH kt V), HB, LL)) (by simp [opRead, h_6, eU, g_25]) ⟨h_r, sl, sv, pd, sg, (wrK ln P 61 0 0).2, rfl, hh_r, (fun j h => absurd h (Nat.not_lt_zero j)), hsv⟩) hP hD hS dX5_read_173 hlocks
          · skip
            obtain ⟨hk1, hk2⟩ := hst h_42
            obtain ⟨t_7, hk3⟩ := hk1
            obtain ⟨s1, s2, s3, s4, s5⟩ := ok_step hm (by omega) hkk hk3
            obtain ⟨v0, v1, v2, v3, v4⟩ := ok_vals s2
            have n1 : 1 ≤ nrK ln P kk p := by rw [s4]; omega
            refine lv_aload_n hx hb dX5_read_45 rfl (lv_at hl 1 rfl) ?_
            refine lv_iload_n hx hb dX5_read_46 rfl (lv_at hl 0 rfl) ?_
            refine lv_iconst (v := nI 2) hx hb dX5_read_47 (by decide) ?_
            refine xIadd C dX5_read_48 ?_
            refine xVro C hN (As := [.int (nI (p + 2))]) (rest := []) (q0 := 0) (c_X5_next xl D kA a U h_r sl sv pd sg (pushN kt) ln ((wrK ln P 61 0 0).2) (p + 2) (by omega) P hpd hm hwP) (cwV 1 hts gX5_read_X5_next rfl rfl rfl (by decide +kernel) ⟨Nat.le_of_ble_eq_true rfl, Nat.le_of_ble_eq_true rfl⟩) hP rfl rfl rfl rfl hl.1 rfl (Nat.le_of_ble_eq_true rfl) dX5_read_49 ⟨Nat.le_of_ble_eq_true rfl, Nat.le_of_ble_eq_true rfl⟩ ?_
            refine lv_bipush (v := nI 42) hx hb dX5_read_52 (by decide) ?_
            have J54 : ∀ (ls : Array Slot) (_ : lv_has ls 6 [(1, .int (nI p)), (0, .ref (a 0))]), W xp xl xe (headSpec wsX5_read { frames := 3, cells := 0, slots := 0, locals := 67 }).room xs xm ([.ref (a 0)] : List Value).toArray xbe xme xc H locs 0 0 (MQ xbe (xQi D A (fun r u => r = (opRead (V, ln, P, kt, HH, HB, LL) ).1 ∧ ModR kA a (opRead (V, ln, P, kt, HH, HB, LL) ).2 u)) ([.ref (a 0)] : List Value).toArray xs 0 0 A) (F0 xm 71 ls [.int (nI (nmC (sgn ln P (p + 2)) 5))]) := by
              intro   ls hl
              refine lv_istore_n (lv' := [(2, .int (nI (nmC (sgn ln P (p + 2)) 5))), (1, .int (nI p)), (0, .ref (a 0))]) hx hb dX5_read_71 rfl hl (by decide) rfl (fun ls hl => ?_)
              refine lv_aload_n hx hb dX5_read_72 rfl (lv_at hl 2 rfl) ?_
              refine lv_iload_n hx hb dX5_read_73 rfl (lv_at hl 1 rfl) ?_
              refine lv_iconst (v := nI 3) hx hb dX5_read_74 (by decide) ?_
              refine xIadd C dX5_read_75 ?_
              refine xVro C hN (As := [.int (nI (p + 3))]) (rest := []) (q0 := 0) (c_X5_next xl D kA a U h_r sl sv pd sg (pushN kt) ln ((wrK ln P 61 0 0).2) (p + 3) (by omega) P hpd hm hwP) (cwV 1 hts gX5_read_X5_next rfl rfl rfl (by decide +kernel) ⟨Nat.le_of_ble_eq_true rfl, Nat.le_of_ble_eq_true rfl⟩) hP rfl rfl rfl rfl hl.1 rfl (Nat.le_of_ble_eq_true rfl) dX5_read_76 ⟨Nat.le_of_ble_eq_true rfl, Nat.le_of_ble_eq_true rfl⟩ ?_
              refine lv_bipush (v := nI 42) hx hb dX5_read_79 (by decide) ?_
              have J81 : ∀ (ls : Array Slot) (_ : lv_has ls 6 [(2, .int (nI (nmC (sgn ln P (p + 2)) 5))), (1, .int (nI p)), (0, .ref (a 0))]), W xp xl xe (headSpec wsX5_read { frames := 3, cells := 0, slots := 0, locals := 67 }).room xs xm ([.ref (a 0)] : List Value).toArray xbe xme xc H locs 0 0 (MQ xbe (xQi D A (fun r u => r = (opRead (V, ln, P, kt, HH, HB, LL) ).1 ∧ ModR kA a (opRead (V, ln, P, kt, HH, HB, LL) ).2 u)) ([.ref (a 0)] : List Value).toArray xs 0 0 A) (F0 xm 99 ls [.int (nI (nmC (sgn ln P (p + 3)) 6))]) := by
                intro   ls hl
                refine lv_istore_n (lv' := [(3, .int (nI (nmC (sgn ln P (p + 3)) 6))), (2, .int (nI (nmC (sgn ln P (p + 2)) 5))), (1, .int (nI p)), (0, .ref (a 0))]) hx hb dX5_read_99 rfl hl (by decide) rfl (fun ls hl => ?_)
                refine lv_aload_n hx hb dX5_read_100 rfl (lv_at hl 3 rfl) ?_
                refine lv_iload_n hx hb dX5_read_101 rfl (lv_at hl 2 rfl) ?_
                refine lv_iconst (v := nI 1) hx hb dX5_read_102 (by decide) ?_
                refine xIadd C dX5_read_103 ?_
                refine xVro C hN (As := [.int (nI (p + 1))]) (rest := []) (q0 := 0) (c_X5_next xl D kA a U h_r sl sv pd sg (pushN kt) ln ((wrK ln P 61 0 0).2) (p + 1) (by omega) P hpd hm hwP) (cwV 1 hts gX5_read_X5_next rfl rfl rfl (by decide +kernel) ⟨Nat.le_of_ble_eq_true rfl, Nat.le_of_ble_eq_true rfl⟩) hP rfl rfl rfl rfl hl.1 rfl (Nat.le_of_ble_eq_true rfl) dX5_read_104 ⟨Nat.le_of_ble_eq_true rfl, Nat.le_of_ble_eq_true rfl⟩ ?_
                refine xSro C hN (As := [.int (nI (sgn ln P (p + 1)))]) (rest := []) (c_X5_kindFor xl D kA (sgn ln P (p + 1)) (sgn_lt hwP (p + 1))) (va_cwS 1 hts gX5_read_X5_kindFor rfl rfl rfl (by decide +kernel) ⟨Nat.le_of_ble_eq_true rfl, Nat.le_of_ble_eq_true rfl⟩) (hP.sub (ws' := []) [] rfl) rfl hl.1 rfl (Nat.le_of_ble_eq_true rfl) dX5_read_107 ⟨Nat.le_of_ble_eq_true rfl, Nat.le_of_ble_eq_true rfl⟩ ?_
                refine xTop (y := nI (kindC (sgn ln P (p + 1)))) (by unfold kfI; rw [if_neg s2.2.1, ← v1.2]) ?_
                refine lv_istore (lv' := [(4, .int (nI (kindC (sgn ln P (p + 1))))), (3, .int (nI (nmC (sgn ln P (p + 3)) 6))), (2, .int (nI (nmC (sgn ln P (p + 2)) 5))), (1, .int (nI p)), (0, .ref (a 0))]) hx hb dX5_read_110 hl (by decide) rfl (fun ls hl => ?_)
                refine lv_aload_n hx hb dX5_read_112 rfl (lv_at hl 4 rfl) ?_
                refine lv_aload_n hx hb dX5_read_113 rfl (lv_at hl 4 rfl) ?_
                refine lv_iload_n hx hb dX5_read_114 rfl (lv_at hl 3 rfl) ?_
                refine xVro C hN (As := [.int (nI p)]) (rest := [.ref (a 0)]) (q0 := 0) (c_X5_next xl D kA a U h_r sl sv pd sg (pushN kt) ln ((wrK ln P 61 0 0).2) (p) (by omega) P hpd hm hwP) (cwV 1 hts gX5_read_X5_next rfl rfl rfl (by decide +kernel) ⟨Nat.le_of_ble_eq_true rfl, Nat.le_of_ble_eq_true rfl⟩) hP rfl rfl rfl rfl hl.1 rfl (Nat.le_of_ble_eq_true rfl) dX5_read_115 ⟨Nat.le_of_ble_eq_true rfl, Nat.le_of_ble_eq_true rfl⟩ ?_
                refine lv_bipush (v := nI 48) hx hb dX5_read_118 (by decide) ?_
                refine xIsub C v0.2 dX5_read_120 ?_
                refine lv_iload hx hb dX5_read_121 (lv_at hl 0 rfl) ?_
                refine lv_iload_n hx hb dX5_read_123 rfl (lv_at hl 2 rfl) ?_
                refine lv_iload_n hx hb dX5_read_124 rfl (lv_at hl 1 rfl) ?_
                refine lv_iload hx hb dX5_read_125 (lv_at hl 0 rfl) ?_
                have J127 : ∀ (ls : Array Slot) (_ : lv_has ls 6 [(4, .int (nI (kindC (sgn ln P (p + 1))))), (3, .int (nI (nmC (sgn ln P (p + 3)) 6))), (2, .int (nI (nmC (sgn ln P (p + 2)) 5))), (1, .int (nI p)), (0, .ref (a 0))]), W xp xl xe (headSpec wsX5_read { frames := 3, cells := 0, slots := 0, locals := 67 }).room xs xm ([.ref (a 0)] : List Value).toArray xbe xme xc H locs 0 0 (MQ xbe (xQi D A (fun r u => r = (opRead (V, ln, P, kt, HH, HB, LL) ).1 ∧ ModR kA a (opRead (V, ln, P, kt, HH, HB, LL) ).2 u)) ([.ref (a 0)] : List Value).toArray xs 0 0 A) (F0 xm 144 ls [.int (nI (slT ln P p)), .int (nI (nmC (sgn ln P (p + 3)) 6)), .int (nI (nmC (sgn ln P (p + 2)) 5)), .int (nI (kindC (sgn ln P (p + 1)))), .int (nI (sgn ln P p - 48)), .ref (a 0)]) := by
                  intro   ls hl
                  refine xWWi hS (va_runV (As := [.int (nI (sgn ln P p - 48)), .int (nI (kindC (sgn ln P (p + 1)))), .int (nI (nmC (sgn ln P (p + 2)) 5)), .int (nI (nmC (sgn ln P (p + 3)) 6)), .int (nI (slT ln P p))]) (rest := []) C (c_X5_adds xl D kA a U h_r sl sv pd sg (pushN kt) ln ((wrK ln P 61 0 0).2) (sgn ln P p - 48) (kindC (sgn ln P (p + 1))) (nmC (sgn ln P (p + 2)) 5) (nmC (sgn ln P (p + 3)) 6) (slT ln P p) (by omega) A) (cwV 5 hts gX5_read_X5_adds rfl rfl rfl (by decide +kernel) ⟨Nat.le_of_ble_eq_true rfl, Nat.le_of_ble_eq_true rfl⟩) (xPreVw (q0 := 0) hN hP hD (xAll hS hA) rfl rfl rfl) rfl rfl hl.1 rfl (lv_room (Nat.le_of_ble_eq_true rfl)) dX5_read_144 ⟨Nat.le_of_ble_eq_true rfl, Nat.le_of_ble_eq_true rfl⟩) (fun r_144 u_144 H locs hq_144 hP hD hS => ?_)
                  obtain ⟨rfl, rfl⟩ := hq_144
                  have hP : va_P D vwCl [((a 0), .inr (5, [.ref (a 1), .ref (a 2), .int (nI (pushN kt)), .ref (a 3), .ref (a 4), .ref (a 5), .int (nI ln), .ref (a 6), .int (nI ((wrK ln P 61 0 0).2))])), ((a 1), .inl (kA 0, 169, .inl (vI (addP ln P p U)))), ((a 2), .inl (kA 0, 1014, .inl (h_r))), ((a 3), .inl (kA 0, 338, .inl (sl))), ((a 4), .inl (kA 2, 2, .inl (sv))), ((a 5), .inl (kA 0, 60, .inl (pd))), ((a 6), .inl (kA 0, 5, .inl (sg)))] H := hP
                  have hD : va_D A [((a 0), .inr (5, [.ref (a 1), .ref (a 2), .int (nI (pushN kt)), .ref (a 3), .ref (a 4), .ref (a 5), .int (nI ln), .ref (a 6), .int (nI ((wrK ln P 61 0 0).2))])), ((a 1), .inl (kA 0, 169, .inl (vI (addP ln P p U)))), ((a 2), .inl (kA 0, 1014, .inl (h_r))), ((a 3), .inl (kA 0, 338, .inl (sl))), ((a 4), .inl (kA 2, 2, .inl (sv))), ((a 5), .inl (kA 0, 60, .inl (pd))), ((a 6), .inl (kA 0, 5, .inl (sg)))] := hD
                  refine lv_istore (lv' := [(5, .int (nI (U 0))), (4, .int (nI (kindC (sgn ln P (p + 1))))), (3, .int (nI (nmC (sgn ln P (p + 3)) 6))), (2, .int (nI (nmC (sgn ln P (p + 2)) 5))), (1, .int (nI p)), (0, .ref (a 0))]) hx hb dX5_read_147 hl (by decide) rfl (fun ls hl => ?_)
                  refine lv_iload_n hx hb dX5_read_149 rfl (lv_at hl 4 rfl) ?_
                  refine lv_aload_n hx hb dX5_read_150 rfl (lv_at hl 5 rfl) ?_
                  refine lv_iload_n hx hb dX5_read_151 rfl (lv_at hl 4 rfl) ?_
                  refine xVro C hN (As := [.int (nI p)]) (rest := [.int (nI p)]) (q0 := 0) (c_X5_whole xl D kA a (addP ln P p U) h_r sl sv pd sg (pushN kt) ln ((wrK ln P 61 0 0).2) p (by omega) P hpd hm hwP) (cwV 1 hts gX5_read_X5_whole rfl rfl rfl (by decide +kernel) ⟨Nat.le_of_ble_eq_true rfl, Nat.le_of_ble_eq_true rfl⟩) hP rfl rfl rfl rfl hl.1 rfl (Nat.le_of_ble_eq_true rfl) dX5_read_152 ⟨Nat.le_of_ble_eq_true rfl, Nat.le_of_ble_eq_true rfl⟩ ?_
                  refine lv_iconst (v := nI 1) hx hb dX5_read_155 (by decide) ?_
                  refine xIadd C dX5_read_156 ?_
                  refine xIadd C dX5_read_157 ?_
                  refine lv_istore_n (lv' := [(1, .int (nI (p + ((whl ln P p) + 1)))), (5, .int (nI (U 0))), (4, .int (nI (kindC (sgn ln P (p + 1))))), (3, .int (nI (nmC (sgn ln P (p + 3)) 6))), (2, .int (nI (nmC (sgn ln P (p + 2)) 5))), (0, .ref (a 0))]) hx hb dX5_read_158 rfl hl (by decide) rfl (fun ls hl => ?_)
                  refine lv_goto (tgt := 37) hx hb dX5_read_159 (by decide) ?_
                  have hP : va_P D vwCl [((a 0), .inr (5, [.ref (a 1), .ref (a 2), .int (nI (pushN kt)), .ref (a 3), .ref (a 4), .ref (a 5), .int (nI ln), .ref (a 6), .int (nI ((wrK ln P 61 0 0).2))])), ((a 1), .inl (kA 0, 169, .inl (vI (addP ln P p U)))), ((a 2), .inl (kA 0, 1014, .inl (h_r))), ((a 3), .inl (kA 0, 338, .inl (sl))), ((a 4), .inl (kA 2, 2, .inl (sv))), ((a 5), .inl (kA 0, 60, .inl (pd))), ((a 6), .inl (kA 0, 5, .inl (sg)))] H := hP
                  exact ih37 (p + ((whl ln P p) + 1)) (kk - 1) (addP ln P p U) (by omega) (by have := whl_ge ln P p; omega) (by omega) (fun q => ⟨⟨t_7 + 1, (s5 (by omega)).2⟩, by rw [if_pos (show p + whl ln P p < ln by omega)] at s4; show U 0 + 1 + nrK ln P (kk - 1) (p + (whl ln P p + 1)) ≤ 24; rw [← Nat.add_assoc p]; omega⟩) (by show U 0 + 1 ≤ 24; omega) (by rw [← hrd, rd_s hkk h_42]; rfl) _ _ hP hD hS _ (lv_sub hl [0, 5] rfl)
                refine xIfNe C (tgt := 134) (by omega) dX5_read_127 (by decide) (fun h_127 => ?_) (fun h_127 => ?_)
                · skip
                  refine lv_aload_n hx hb dX5_read_134 rfl (lv_at hl 4 rfl) ?_
                  refine lv_iload_n hx hb dX5_read_135 rfl (lv_at hl 3 rfl) ?_
                  refine lv_iconst (v := nI 4) hx hb dX5_read_136 (by decide) ?_
                  refine xIadd C dX5_read_137 ?_
                  refine xVro C hN (As := [.int (nI (p + 4))]) (rest := [.int (nI (nmC (sgn ln P (p + 3)) 6)), .int (nI (nmC (sgn ln P (p + 2)) 5)), .int (nI (kindC (sgn ln P (p + 1)))), .int (nI ((sgn ln P p) - 48)), .ref (a 0)]) (q0 := 0) (c_X5_next xl D kA a U h_r sl sv pd sg (pushN kt) ln ((wrK ln P 61 0 0).2) (p + 4) (by omega) P hpd hm hwP) (cwV 1 hts gX5_read_X5_next rfl rfl rfl (by decide +kernel) ⟨Nat.le_of_ble_eq_true rfl, Nat.le_of_ble_eq_true rfl⟩) hP rfl rfl rfl rfl hl.1 rfl (Nat.le_of_ble_eq_true rfl) dX5_read_138 ⟨Nat.le_of_ble_eq_true rfl, Nat.le_of_ble_eq_true rfl⟩ ?_
                  refine lv_bipush (v := nI 48) hx hb dX5_read_141 (by decide) ?_
                  refine xIsub C (by have := v4.2.2 (by intro q; rw [v1.2, kind0.mpr q] at h_127; exact absurd h_127 (Nat.lt_irrefl 0)); omega) dX5_read_143 ?_
                  refine xTop (y := nI (slT ln P p)) (by unfold slT; rw [if_neg (fun q => by rw [v1.2, kind0.mpr q] at h_127; exact absurd h_127 (Nat.lt_irrefl 0))]) ?_
                  exact J127   _ (lv_sub hl [0, 1, 2, 3, 4] rfl)
                · skip
                  refine lv_iconst (v := nI 1) hx hb dX5_read_130 (by decide) ?_
                  refine xTop (y := nI (slT ln P p)) (by unfold slT; rw [if_pos (kind0.mp (by rw [← v1.2]; exact h_127))]) ?_
                  refine lv_goto (tgt := 144) hx hb dX5_read_131 (by decide) ?_
                  exact J127   _ (lv_sub hl [0, 1, 2, 3, 4] rfl)
              refine xIcmpNe C (tgt := 89) (by have := sgn_lt hwP (p + 3); omega) (by decide) dX5_read_81 (by decide) (fun h_81 => ?_) (fun h_81 => ?_)
              · skip
                refine lv_aload_n hx hb dX5_read_89 rfl (lv_at hl 2 rfl) ?_
                refine lv_iload_n hx hb dX5_read_90 rfl (lv_at hl 1 rfl) ?_
                refine lv_iconst (v := nI 3) hx hb dX5_read_91 (by decide) ?_
                refine xIadd C dX5_read_92 ?_
                refine xVro C hN (As := [.int (nI (p + 3))]) (rest := []) (q0 := 0) (c_X5_next xl D kA a U h_r sl sv pd sg (pushN kt) ln ((wrK ln P 61 0 0).2) (p + 3) (by omega) P hpd hm hwP) (cwV 1 hts gX5_read_X5_next rfl rfl rfl (by decide +kernel) ⟨Nat.le_of_ble_eq_true rfl, Nat.le_of_ble_eq_true rfl⟩) hP rfl rfl rfl rfl hl.1 rfl (Nat.le_of_ble_eq_true rfl) dX5_read_93 ⟨Nat.le_of_ble_eq_true rfl, Nat.le_of_ble_eq_true rfl⟩ ?_
                refine lv_bipush (v := nI 48) hx hb dX5_read_96 (by decide) ?_
                refine xIsub C (by have := v3.2; omega) dX5_read_98 ?_
                refine xTop (y := nI (nmC (sgn ln P (p + 3)) 6)) (by unfold nmC; rw [if_neg h_81]) ?_
                exact J81   _ (lv_sub hl [0, 1, 2] rfl)
              · skip
                refine lv_bipush (v := nI 6) hx hb dX5_read_84 (by decide) ?_
                refine xTop (y := nI (nmC (sgn ln P (p + 3)) 6)) (by unfold nmC; rw [if_pos h_81]) ?_
                refine lv_goto (tgt := 99) hx hb dX5_read_86 (by decide) ?_
                exact J81   _ (lv_sub hl [0, 1, 2] rfl)
            refine xIcmpNe C (tgt := 61) (by have := sgn_lt hwP (p + 2); omega) (by decide) dX5_read_54 (by decide) (fun h_54 => ?_) (fun h_54 => ?_)
            · skip
              refine lv_aload_n hx hb dX5_read_61 rfl (lv_at hl 1 rfl) ?_
              refine lv_iload_n hx hb dX5_read_62 rfl (lv_at hl 0 rfl) ?_
              refine lv_iconst (v := nI 2) hx hb dX5_read_63 (by decide) ?_
              refine xIadd C dX5_read_64 ?_
              refine xVro C hN (As := [.int (nI (p + 2))]) (rest := []) (q0 := 0) (c_X5_next xl D kA a U h_r sl sv pd sg (pushN kt) ln ((wrK ln P 61 0 0).2) (p + 2) (by omega) P hpd hm hwP) (cwV 1 hts gX5_read_X5_next rfl rfl rfl (by decide +kernel) ⟨Nat.le_of_ble_eq_true rfl, Nat.le_of_ble_eq_true rfl⟩) hP rfl rfl rfl rfl hl.1 rfl (Nat.le_of_ble_eq_true rfl) dX5_read_65 ⟨Nat.le_of_ble_eq_true rfl, Nat.le_of_ble_eq_true rfl⟩ ?_
              refine lv_bipush (v := nI 48) hx hb dX5_read_68 (by decide) ?_
              refine xIsub C (by have := v2.2; omega) dX5_read_70 ?_
              refine xTop (y := nI (nmC (sgn ln P (p + 2)) 5)) (by unfold nmC; rw [if_neg h_54]) ?_
              exact J54   _ (lv_sub hl [0, 1] rfl)
            · skip
              refine lv_iconst (v := nI 5) hx hb dX5_read_57 (by decide) ?_
              refine xTop (y := nI (nmC (sgn ln P (p + 2)) 5)) (by unfold nmC; rw [if_pos h_54]) ?_
              refine lv_goto (tgt := 71) hx hb dX5_read_58 (by decide) ?_
              exact J54   _ (lv_sub hl [0, 1] rfl)
      exact L37 _ 0 61 V (Nat.lt_succ_self _) (by omega) (by omega) (fun _ => ⟨⟨0, h_6⟩, by omega⟩) (by omega) rfl _ _ hP hD hS _ (lv_sub hl [0, 1] rfl)
    · skip
      have g_25 : 24 < V 0 + nrK ln P 61 0 := by omega
      skip
      refine lv_bipush (v := (-4)) hx hb dX5_read_28 (by decide) ?_
      exact xRetI hx hb hret (v := (-4)) (retS (S2 := (V, ln, P, kt, HH, HB, LL)) (by simp [opRead, h_6, h_25, g_25]) ⟨hs, sl, sv, pd, sg, (wrK ln P 61 0 0).2, rfl, hH, hpd, hsv⟩) hP hD hS dX5_read_30 hlocks
  · skip
    refine lv_bipush (v := (-3)) hx hb dX5_read_9 (by decide) ?_
    exact xRetI hx hb hret (v := (-3)) (retS (S2 := (V, ln, P, kt, HH, HB, LL)) (by simp [opRead, h_6]) ⟨hs, sl, sv, pd, sg, (wrK ln P 61 0 0).2, rfl, hH, hpd, hsv⟩) hP hD hS dX5_read_11 hlocks

set_option maxHeartbeats 8000000 in
set_option maxRecDepth 100000 in
theorem c_X5_init (xl : Launch) (D : va_G) (kA : Nat → ClassId) (h : Nat) (A : Nat → Prop) : Met xl yX5_init wsX5_init { frames := 1, cells := 6, slots := 1588, locals := 40 } (va_Pc [.ref h] (xPw D kA A [(h, .inr (5, [.null, .null, .int 0, .null, .null, .null, .int 0, .null, .int 0]))])) (xQv D A (fun u => ∃ a : Nat → Nat, a 0 = h ∧ u = modW kA a (fun _ => 0) (fun _ => 0) (fun _ => 0) (fun _ => 0) (fun _ => 0) (fun _ => 0) 0 0 0)) 6 1588 A := by
  refine Met.ofW (cc := cX5_init) (maxL := 1) (ret := none) (by decide) rfl ?_
  intro xp xe xs xm args xbe xme xc s₁ B hml hv
  obtain ⟨rfl, hP, hN, hD, hA⟩ := hv
  have hret := B.returns
  have C : CallFix xp xm xc cX5_init 1 xs ([.ref h] : List Value).toArray wsX5_init RX5 := ⟨B.exec, B.bytes, hml, findClass_of_methodNamed B.named, atoms_spec (ws := wsX5_init) B.pre⟩
  have hlocks := B.notSynchronized
  have hin : xme.name = "<init>" := (name_of_methodNamed B.named B.method).1
  obtain ⟨hx, hb, _, hown, hts⟩ := id C
  have hS : va_S A xs.heap xs.heap [] := va_S.rf
  have hl := lv_entry ([.ref h]) (n := 1) (Nat.le_of_ble_eq_true rfl)
  rw [lg_entry_eq]
  generalize (lg_sl ([.ref h]) ++ List.replicate (1 - (lg_sl ([.ref h])).length) Slot.unset).toArray = ls at hl ⊢
  have hl : lv_has ls 1 [(0, .ref h)] := hl
  refine lv_aload_n hx hb dX5_init_0 rfl (lv_at hl 0 rfl) ?_
  refine W.objInit hx hb hown (hts _ (List.mem_of_getElem? (i := 1) rfl)) (hts _ (List.mem_of_getElem? (i := 2) rfl)) (hts _ (List.mem_of_getElem? (i := 3) rfl)) rfl (by rw [hml]; exact hl.1) rfl dX5_init_1 (Nat.le_of_ble_eq_true rfl) (Nat.le_of_ble_eq_true rfl) ?_
  refine W.eq (g2 := F0 xm 4 ls []) rfl ?_
  refine lv_aload_n hx hb dX5_init_4 rfl (lv_at hl 0 rfl) ?_
  refine lv_sipush (v := nI 169) hx hb dX5_init_5 (by decide) ?_
  refine xNewa C hN hP hD hS hA 0 (N := 169) (ty := .int) rfl rfl (fun _ _ h => h) (List.mem_of_getElem? (i := 4) rfl) rfl (by decide) (by decide) rfl (Nat.le_of_ble_eq_true rfl) (Nat.le_of_ble_eq_true rfl) dX5_init_8 (fun q_8 H hP hD hS => ?_)
  have hP : va_P D vwCl [(h, .inr (5, [.null, .null, .int 0, .null, .null, .null, .int 0, .null, .int 0])), (q_8, .inl (kA 0, 169, .inl (fun _ => 0)))] H := hP
  have hD : va_D A [(h, .inr (5, [.null, .null, .int 0, .null, .null, .null, .int 0, .null, .int 0])), (q_8, .inl (kA 0, 169, .inl (fun _ => 0)))] := hD
  refine xPutF C hN hP hD hS hin 0 (j := 0) (v := .ref q_8) rfl rfl iX5_init_X5 tyX5_ok nmX5 (by decide) kX5_init_7 rfl rfl rfl rfl rfl (Nat.le_of_ble_eq_true rfl) dX5_init_10 (fun H locs hP hD hS => ?_)
  have hP : va_P D vwCl [(h, .inr (5, [.ref q_8, .null, .int 0, .null, .null, .null, .int 0, .null, .int 0])), (q_8, .inl (kA 0, 169, .inl (fun _ => 0)))] H := hP
  have hD : va_D A [(h, .inr (5, [.ref q_8, .null, .int 0, .null, .null, .null, .int 0, .null, .int 0])), (q_8, .inl (kA 0, 169, .inl (fun _ => 0)))] := hD
  refine lv_aload_n hx hb dX5_init_13 rfl (lv_at hl 0 rfl) ?_
  refine lv_sipush (v := nI 1014) hx hb dX5_init_14 (by decide) ?_
  refine xNewa C hN hP hD hS hA 0 (N := 1014) (ty := .int) rfl rfl (fun _ _ h => h) (List.mem_of_getElem? (i := 4) rfl) rfl (by decide) (by decide) rfl (Nat.le_of_ble_eq_true rfl) (Nat.le_of_ble_eq_true rfl) dX5_init_17 (fun q_17 H hP hD hS => ?_)
  have hP : va_P D vwCl [(h, .inr (5, [.ref q_8, .null, .int 0, .null, .null, .null, .int 0, .null, .int 0])), (q_8, .inl (kA 0, 169, .inl (fun _ => 0))), (q_17, .inl (kA 0, 1014, .inl (fun _ => 0)))] H := hP
  have hD : va_D A [(h, .inr (5, [.ref q_8, .null, .int 0, .null, .null, .null, .int 0, .null, .int 0])), (q_8, .inl (kA 0, 169, .inl (fun _ => 0))), (q_17, .inl (kA 0, 1014, .inl (fun _ => 0)))] := hD
  refine xPutF C hN hP hD hS hin 0 (j := 1) (v := .ref q_17) rfl rfl iX5_init_X5 tyX5_ok nmX5 (by decide) kX5_init_13 rfl rfl rfl rfl rfl (Nat.le_of_ble_eq_true rfl) dX5_init_19 (fun H locs hP hD hS => ?_)
  have hP : va_P D vwCl [(h, .inr (5, [.ref q_8, .ref q_17, .int 0, .null, .null, .null, .int 0, .null, .int 0])), (q_8, .inl (kA 0, 169, .inl (fun _ => 0))), (q_17, .inl (kA 0, 1014, .inl (fun _ => 0)))] H := hP
  have hD : va_D A [(h, .inr (5, [.ref q_8, .ref q_17, .int 0, .null, .null, .null, .int 0, .null, .int 0])), (q_8, .inl (kA 0, 169, .inl (fun _ => 0))), (q_17, .inl (kA 0, 1014, .inl (fun _ => 0)))] := hD
  refine lv_aload_n hx hb dX5_init_22 rfl (lv_at hl 0 rfl) ?_
  refine lv_sipush (v := nI 338) hx hb dX5_init_23 (by decide) ?_
  refine xNewa C hN hP hD hS hA 0 (N := 338) (ty := .int) rfl rfl (fun _ _ h => h) (List.mem_of_getElem? (i := 4) rfl) rfl (by decide) (by decide) rfl (Nat.le_of_ble_eq_true rfl) (Nat.le_of_ble_eq_true rfl) dX5_init_26 (fun q_26 H hP hD hS => ?_)
  have hP : va_P D vwCl [(h, .inr (5, [.ref q_8, .ref q_17, .int 0, .null, .null, .null, .int 0, .null, .int 0])), (q_8, .inl (kA 0, 169, .inl (fun _ => 0))), (q_17, .inl (kA 0, 1014, .inl (fun _ => 0))), (q_26, .inl (kA 0, 338, .inl (fun _ => 0)))] H := hP
  have hD : va_D A [(h, .inr (5, [.ref q_8, .ref q_17, .int 0, .null, .null, .null, .int 0, .null, .int 0])), (q_8, .inl (kA 0, 169, .inl (fun _ => 0))), (q_17, .inl (kA 0, 1014, .inl (fun _ => 0))), (q_26, .inl (kA 0, 338, .inl (fun _ => 0)))] := hD
  refine xPutF C hN hP hD hS hin 0 (j := 3) (v := .ref q_26) rfl rfl iX5_init_X5 tyX5_ok nmX5 (by decide) kX5_init_16 rfl rfl rfl rfl rfl (Nat.le_of_ble_eq_true rfl) dX5_init_28 (fun H locs hP hD hS => ?_)
  have hP : va_P D vwCl [(h, .inr (5, [.ref q_8, .ref q_17, .int 0, .ref q_26, .null, .null, .int 0, .null, .int 0])), (q_8, .inl (kA 0, 169, .inl (fun _ => 0))), (q_17, .inl (kA 0, 1014, .inl (fun _ => 0))), (q_26, .inl (kA 0, 338, .inl (fun _ => 0)))] H := hP
  have hD : va_D A [(h, .inr (5, [.ref q_8, .ref q_17, .int 0, .ref q_26, .null, .null, .int 0, .null, .int 0])), (q_8, .inl (kA 0, 169, .inl (fun _ => 0))), (q_17, .inl (kA 0, 1014, .inl (fun _ => 0))), (q_26, .inl (kA 0, 338, .inl (fun _ => 0)))] := hD
  refine lv_aload_n hx hb dX5_init_31 rfl (lv_at hl 0 rfl) ?_
  refine lv_iconst (v := nI 2) hx hb dX5_init_32 (by decide) ?_
  refine xNewa C hN hP hD hS hA 2 (N := 2) (ty := .boolean) rfl rfl (fun _ _ h => h) (List.mem_of_getElem? (i := 8) rfl) rfl (by decide) (by decide) rfl (Nat.le_of_ble_eq_true rfl) (Nat.le_of_ble_eq_true rfl) dX5_init_33 (fun q_33 H hP hD hS => ?_)
  have hP : va_P D vwCl [(h, .inr (5, [.ref q_8, .ref q_17, .int 0, .ref q_26, .null, .null, .int 0, .null, .int 0])), (q_8, .inl (kA 0, 169, .inl (fun _ => 0))), (q_17, .inl (kA 0, 1014, .inl (fun _ => 0))), (q_26, .inl (kA 0, 338, .inl (fun _ => 0))), (q_33, .inl (kA 2, 2, .inl (fun _ => 0)))] H := hP
  have hD : va_D A [(h, .inr (5, [.ref q_8, .ref q_17, .int 0, .ref q_26, .null, .null, .int 0, .null, .int 0])), (q_8, .inl (kA 0, 169, .inl (fun _ => 0))), (q_17, .inl (kA 0, 1014, .inl (fun _ => 0))), (q_26, .inl (kA 0, 338, .inl (fun _ => 0))), (q_33, .inl (kA 2, 2, .inl (fun _ => 0)))] := hD
  refine xPutF C hN hP hD hS hin 0 (j := 4) (v := .ref q_33) rfl rfl iX5_init_X5 tyX5_ok nmX5 (by decide) kX5_init_19 rfl rfl rfl rfl rfl (Nat.le_of_ble_eq_true rfl) dX5_init_35 (fun H locs hP hD hS => ?_)
  have hP : va_P D vwCl [(h, .inr (5, [.ref q_8, .ref q_17, .int 0, .ref q_26, .ref q_33, .null, .int 0, .null, .int 0])), (q_8, .inl (kA 0, 169, .inl (fun _ => 0))), (q_17, .inl (kA 0, 1014, .inl (fun _ => 0))), (q_26, .inl (kA 0, 338, .inl (fun _ => 0))), (q_33, .inl (kA 2, 2, .inl (fun _ => 0)))] H := hP
  have hD : va_D A [(h, .inr (5, [.ref q_8, .ref q_17, .int 0, .ref q_26, .ref q_33, .null, .int 0, .null, .int 0])), (q_8, .inl (kA 0, 169, .inl (fun _ => 0))), (q_17, .inl (kA 0, 1014, .inl (fun _ => 0))), (q_26, .inl (kA 0, 338, .inl (fun _ => 0))), (q_33, .inl (kA 2, 2, .inl (fun _ => 0)))] := hD
  refine lv_aload_n hx hb dX5_init_38 rfl (lv_at hl 0 rfl) ?_
  refine lv_bipush (v := nI 60) hx hb dX5_init_39 (by decide) ?_
  refine xNewa C hN hP hD hS hA 0 (N := 60) (ty := .int) rfl rfl (fun _ _ h => h) (List.mem_of_getElem? (i := 4) rfl) rfl (by decide) (by decide) rfl (Nat.le_of_ble_eq_true rfl) (Nat.le_of_ble_eq_true rfl) dX5_init_41 (fun q_41 H hP hD hS => ?_)
  have hP : va_P D vwCl [(h, .inr (5, [.ref q_8, .ref q_17, .int 0, .ref q_26, .ref q_33, .null, .int 0, .null, .int 0])), (q_8, .inl (kA 0, 169, .inl (fun _ => 0))), (q_17, .inl (kA 0, 1014, .inl (fun _ => 0))), (q_26, .inl (kA 0, 338, .inl (fun _ => 0))), (q_33, .inl (kA 2, 2, .inl (fun _ => 0))), (q_41, .inl (kA 0, 60, .inl (fun _ => 0)))] H := hP
  have hD : va_D A [(h, .inr (5, [.ref q_8, .ref q_17, .int 0, .ref q_26, .ref q_33, .null, .int 0, .null, .int 0])), (q_8, .inl (kA 0, 169, .inl (fun _ => 0))), (q_17, .inl (kA 0, 1014, .inl (fun _ => 0))), (q_26, .inl (kA 0, 338, .inl (fun _ => 0))), (q_33, .inl (kA 2, 2, .inl (fun _ => 0))), (q_41, .inl (kA 0, 60, .inl (fun _ => 0)))] := hD
  refine xPutF C hN hP hD hS hin 0 (j := 5) (v := .ref q_41) rfl rfl iX5_init_X5 tyX5_ok nmX5 (by decide) kX5_init_23 rfl rfl rfl rfl rfl (Nat.le_of_ble_eq_true rfl) dX5_init_43 (fun H locs hP hD hS => ?_)
  have hP : va_P D vwCl [(h, .inr (5, [.ref q_8, .ref q_17, .int 0, .ref q_26, .ref q_33, .ref q_41, .int 0, .null, .int 0])), (q_8, .inl (kA 0, 169, .inl (fun _ => 0))), (q_17, .inl (kA 0, 1014, .inl (fun _ => 0))), (q_26, .inl (kA 0, 338, .inl (fun _ => 0))), (q_33, .inl (kA 2, 2, .inl (fun _ => 0))), (q_41, .inl (kA 0, 60, .inl (fun _ => 0)))] H := hP
  have hD : va_D A [(h, .inr (5, [.ref q_8, .ref q_17, .int 0, .ref q_26, .ref q_33, .ref q_41, .int 0, .null, .int 0])), (q_8, .inl (kA 0, 169, .inl (fun _ => 0))), (q_17, .inl (kA 0, 1014, .inl (fun _ => 0))), (q_26, .inl (kA 0, 338, .inl (fun _ => 0))), (q_33, .inl (kA 2, 2, .inl (fun _ => 0))), (q_41, .inl (kA 0, 60, .inl (fun _ => 0)))] := hD
  refine lv_aload_n hx hb dX5_init_46 rfl (lv_at hl 0 rfl) ?_
  refine lv_iconst (v := nI 5) hx hb dX5_init_47 (by decide) ?_
  refine xNewa C hN hP hD hS hA 0 (N := 5) (ty := .int) rfl rfl (fun _ _ h => h) (List.mem_of_getElem? (i := 4) rfl) rfl (by decide) (by decide) rfl (Nat.le_of_ble_eq_true rfl) (Nat.le_of_ble_eq_true rfl) dX5_init_48 (fun q_48 H hP hD hS => ?_)
  have hP : va_P D vwCl [(h, .inr (5, [.ref q_8, .ref q_17, .int 0, .ref q_26, .ref q_33, .ref q_41, .int 0, .null, .int 0])), (q_8, .inl (kA 0, 169, .inl (fun _ => 0))), (q_17, .inl (kA 0, 1014, .inl (fun _ => 0))), (q_26, .inl (kA 0, 338, .inl (fun _ => 0))), (q_33, .inl (kA 2, 2, .inl (fun _ => 0))), (q_41, .inl (kA 0, 60, .inl (fun _ => 0))), (q_48, .inl (kA 0, 5, .inl (fun _ => 0)))] H := hP
  have hD : va_D A [(h, .inr (5, [.ref q_8, .ref q_17, .int 0, .ref q_26, .ref q_33, .ref q_41, .int 0, .null, .int 0])), (q_8, .inl (kA 0, 169, .inl (fun _ => 0))), (q_17, .inl (kA 0, 1014, .inl (fun _ => 0))), (q_26, .inl (kA 0, 338, .inl (fun _ => 0))), (q_33, .inl (kA 2, 2, .inl (fun _ => 0))), (q_41, .inl (kA 0, 60, .inl (fun _ => 0))), (q_48, .inl (kA 0, 5, .inl (fun _ => 0)))] := hD
  refine xPutF C hN hP hD hS hin 0 (j := 7) (v := .ref q_48) rfl rfl iX5_init_X5 tyX5_ok nmX5 (by decide) kX5_init_26 rfl rfl rfl rfl rfl (Nat.le_of_ble_eq_true rfl) dX5_init_50 (fun H locs hP hD hS => ?_)
  have hP : va_P D vwCl [(h, .inr (5, [.ref q_8, .ref q_17, .int 0, .ref q_26, .ref q_33, .ref q_41, .int 0, .ref q_48, .int 0])), (q_8, .inl (kA 0, 169, .inl (fun _ => 0))), (q_17, .inl (kA 0, 1014, .inl (fun _ => 0))), (q_26, .inl (kA 0, 338, .inl (fun _ => 0))), (q_33, .inl (kA 2, 2, .inl (fun _ => 0))), (q_41, .inl (kA 0, 60, .inl (fun _ => 0))), (q_48, .inl (kA 0, 5, .inl (fun _ => 0)))] H := hP
  have hD : va_D A [(h, .inr (5, [.ref q_8, .ref q_17, .int 0, .ref q_26, .ref q_33, .ref q_41, .int 0, .ref q_48, .int 0])), (q_8, .inl (kA 0, 169, .inl (fun _ => 0))), (q_17, .inl (kA 0, 1014, .inl (fun _ => 0))), (q_26, .inl (kA 0, 338, .inl (fun _ => 0))), (q_33, .inl (kA 2, 2, .inl (fun _ => 0))), (q_41, .inl (kA 0, 60, .inl (fun _ => 0))), (q_48, .inl (kA 0, 5, .inl (fun _ => 0)))] := hD
  exact xRetV hx hb hret (⟨ad7 h q_8 q_17 q_26 q_33 q_41 q_48, rfl, rfl⟩) hP hD hS dX5_init_53 hlocks
