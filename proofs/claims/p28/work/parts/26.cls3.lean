theorem sgF_le {X : Nat} : ∀ (f k : Nat), f + k ≤ 8 → sgF X f k ≤ 8
  | 0, k, h => by rw [sgF]; omega
  | f + 1, k, h => by
    rw [sgF]
    split
    · omega
    · split
      · exact sgF_le f (k + 1) (by omega)
      · omega
theorem relP_app {h : Nat → Int32} {m X k : Nat} {P : Nat → Nat} (hp : relP h m P) : relP (wrP h X m k k) (m + k) (putP X m P k) := by
  intro j hj
  unfold wrP putP
  by_cases c : m ≤ j
  · rw [if_pos (by omega), if_pos (by omega)]
  · rw [if_neg (by omega), if_neg (by omega)]; exact hp j (by omega)
theorem pop_pfit {c d : Nat} (hc : c ≤ 5) (hd : d ≤ 6) : popN (maskN 30 (pfit c d)) = (if c = 5 then 5 else 1) * (if d = 6 then 6 else 1) := by
  rw [mk_pop]
  have : ∀ c, c < 6 → ∀ d, d < 7 → cntN 30 (pfit c d) = (if c = 5 then 5 else 1) * (if d = 6 then 6 else 1) := by decide +kernel
  exact this c (by omega) d (by omega)
theorem rsn_6 {n : Nat} {T : Nat → Nat → Nat} {c d rk : Nat} (hW : WfT n T) (hrk : rk ≤ 9) (hn : n < 2 ^ 31 := by omega) : rsnT n T c d rk = -6 ↔ lstT n T c d ≤ rk := by
  constructor
  · intro h
    by_cases e : lstT n T c d = 10
    · rw [rsn_10 hW e] at h; exact absurd h (by decide)
    · have hp : permT n T c d = true := by
        cases e2 : permT n T c d
        · exact absurd ((lst_10 hW).mpr e2) e
        · rfl
      unfold rsnT at h; rw [if_pos hp] at h
      rcases (rsF_best (c := c) (d := d) (rk := rk) hW n (Nat.le_refl n)).1 with ⟨_, g⟩ | ⟨j, _, g1, g2, _⟩
      · rw [lst_le hrk]
        refine ⟨hp, fun b hb h1 h2 => ?_⟩
        have q := g b (Nat.zero_le b) hb
        rcases Nat.lt_or_ge rk (T b 4) with z | z
        · have q2 : hitT n T c d rk b = true := by simp only [hitT, Bool.and_eq_true, decide_eq_true_eq, beq_iff_eq]; exact ⟨⟨h1, z⟩, h2⟩
          rw [q2] at q; cases q
        · exact z
      · rw [h] at g2; exact absurd g2.symm (nI_ne6 (by omega))
  · intro h
    have e : ¬ lstT n T c d = 10 := by omega
    exact (rsn_best hW e (best_none hrk h)).symm
def Wb (V : Nat → Nat) (i : Nat) (x m : Int32) : Prop := ∃ t, (x, t) = wbF V i ∧ t ≤ 300 ∧ ((x = -6 ∧ m = -1) ∨ (x ≠ -6 ∧ m = nI t))
theorem Wb_r {V : Nat → Nat} {i : Nat} {x m : Int32} (h : Wb V i x m) : (wbF V i).1 = x := by
  obtain ⟨t, e, _⟩ := h; rw [← e]
theorem neg1_lt (n : Nat) (h : n < 2 ^ 31) : ¬ nI n ≤ (-1 : Int32) := by
  rw [Int32.le_iff_toInt_le, nI_toInt h]
  have : (-1 : Int32).toInt = -1 := by decide
  rw [this]; omega
theorem Wb_t {V : Nat → Nat} {i : Nat} {x m : Int32} (h1 : TV V i 1 = 1) (h2 : ¬ nI (trpT (V 0 - 1) (delT (TV V) i)) ≤ m) (h : Wb V i x m) (hi : i < 2 ^ 31 := by omega) : Wb V (i + 1) (nI i) (nI (trpT (V 0 - 1) (delT (TV V) i))) := by
  obtain ⟨t, e, ht, h3⟩ := h
  have t3 := trp_le (n := V 0 - 1) (T := delT (TV V) i)
  refine ⟨_, wb_t h1 ?_ e, t3, Or.inr ⟨nI_ne6 hi, rfl⟩⟩
  rcases h3 with ⟨a, _⟩ | ⟨_, b⟩
  · exact Or.inl a
  · right
    rw [b, Int32.le_iff_toInt_le, nI_toInt (by omega), nI_toInt (by omega)] at h2
    omega
theorem Wb_f {V : Nat → Nat} {i : Nat} {x m : Int32} (h1 : TV V i 1 ≠ 1 ∨ nI (trpT (V 0 - 1) (delT (TV V) i)) ≤ m) (h : Wb V i x m) : Wb V (i + 1) x m := by
  obtain ⟨t, e, ht, h3⟩ := h
  have t3 := trp_le (n := V 0 - 1) (T := delT (TV V) i)
  refine ⟨t, wb_f ?_ e, ht, h3⟩
  rcases h1 with h1 | h1
  · exact Or.inl h1
  · rcases h3 with ⟨_, b⟩ | ⟨a, b⟩
    · rw [b] at h1; exact absurd h1 (neg1_lt _ (by omega))
    · refine Or.inr ⟨a, ?_⟩
      rw [b, Int32.le_iff_toInt_le, nI_toInt (by omega), nI_toInt (by omega)] at h1
      omega
def Bw (V : Nat → Nat) (z l b : Nat) (m : Int32) : Prop := ∃ t, (b, t) = bwF V z l ∧ t ≤ 300 ∧ ((l = 0 ∧ m = -1 ∧ t = 0) ∨ (1 ≤ l ∧ m = nI t))
theorem Bw_r {V : Nat → Nat} {z l b : Nat} {m : Int32} (h : Bw V z l b m) : (bwF V z l).1 = b := by
  obtain ⟨t, e, _⟩ := h; rw [← e]
theorem Bw_t {V : Nat → Nat} {z l b : Nat} {m : Int32} (h1 : ¬ nI (trpT (V 0 + 1) (wavT (V 0) (TV V) l z)) < m) (h : Bw V z l b m) : Bw V z (l + 1) l (nI (trpT (V 0 + 1) (wavT (V 0) (TV V) l z))) := by
  obtain ⟨t, e, ht, h3⟩ := h
  have t3 := trp_le (n := V 0 + 1) (T := wavT (V 0) (TV V) l z)
  refine ⟨_, bw_t ?_ e, t3, Or.inr ⟨by omega, rfl⟩⟩
  rcases h3 with ⟨_, _, c⟩ | ⟨_, b⟩
  · omega
  · rw [b, Int32.lt_iff_toInt_lt, nI_toInt (by omega), nI_toInt (by omega)] at h1
    omega
theorem Bw_f {V : Nat → Nat} {z l b : Nat} {m : Int32} (h1 : nI (trpT (V 0 + 1) (wavT (V 0) (TV V) l z)) < m) (h : Bw V z l b m) : Bw V z (l + 1) b m := by
  obtain ⟨t, e, ht, h3⟩ := h
  have t3 := trp_le (n := V 0 + 1) (T := wavT (V 0) (TV V) l z)
  rcases h3 with ⟨_, b, _⟩ | ⟨a, b⟩
  · exfalso
    rw [b, Int32.lt_iff_toInt_lt, nI_toInt (by omega)] at h1
    have : (-1 : Int32).toInt = -1 := by decide
    rw [this] at h1; omega
  · refine ⟨t, bw_f ?_ e, ht, Or.inr ⟨by omega, b⟩⟩
    rw [b, Int32.lt_iff_toInt_lt, nI_toInt (by omega), nI_toInt (by omega)] at h1
    omega
set_option maxHeartbeats 8000000 in
set_option maxRecDepth 100000 in
theorem c_X4_tidy (xl : Launch) (D : va_G) (kA : Nat → ClassId) (ox os ob ot : Nat → Nat) (sl hs : Nat → Option Nat) (h : Nat → Int32) (tf : Nat → Nat → Int32) (tz : Int32) (f g : Nat → Nat → Int32) (V : Nat → Nat) (ln kt : Nat) (tl : va_W) (P : Nat → Nat) (HH : Nat → Nat → Nat) (HB : Nat → Bool) (LL : Nat → Nat → Nat) (Q : Nat → Option Ent) (hI : InvS (V, ln, P, kt, HH, HB, LL)) (hr : relN V f g) (hpd : relP h ln P) (hQ : QR kA sl hs tl kt HH HB LL Q) (A : Nat → Prop) : Met xl yX4_tidy wsX4_tidy { frames := 7, cells := 14, slots := 212, locals := 156 } (va_Pc [.ref (ox 0)] (xPw D kA A ((clsN kA ox os ob ot sl hs h tf tz f g (V 0) (V 1) (V 2) ln kt) ++ tl))) (xQi D A (fun r u => r = (opTidy (V, ln, P, kt, HH, HB, LL) ).1 ∧ ClsR kA ox os ob ot (opTidy (V, ln, P, kt, HH, HB, LL) ).2 u)) 14 212 A := by
  refine Met.ofW (cc := cX4_tidy) (maxL := 3) (ret := (some .int)) (by decide) rfl ?_
  intro xp xe xs xm args xbe xme xc s₁ B hml hv
  obtain ⟨rfl, hP, hN, hD, hA⟩ := hv
  have hret := B.returns
  have C : CallFix xp xm xc cX4_tidy 3 xs ([.ref (ox 0)] : List Value).toArray wsX4_tidy RX4 := ⟨B.exec, B.bytes, hml, findClass_of_methodNamed B.named, atoms_spec (ws := wsX4_tidy) B.pre⟩
  have hlocks := B.notSynchronized
  obtain ⟨hx, hb, _, hown, hts⟩ := id C
  have hS : va_S A xs.heap xs.heap [] := va_S.rf
  have hl := lv_entry ([.ref (ox 0)]) (n := 3) (Nat.le_of_ble_eq_true rfl)
  rw [lg_entry_eq]
  generalize (lg_sl ([.ref (ox 0)]) ++ List.replicate (3 - (lg_sl ([.ref (ox 0)])).length) Slot.unset).toArray = ls at hl ⊢
  have hl : lv_has ls 3 [(0, .ref (ox 0))] := hl
  obtain ⟨⟨hV, hW, hM, hG⟩, hm, hwP, hk, hIH, hIL⟩ := hI
  have hR := hr.1
  refine lv_aload_n hx hb dX4_tidy_0 rfl (lv_at hl 0 rfl) ?_
  refine xWWv hS (va_runV (As := []) (rest := []) C (c_X4_remember xl D kA ox os ob ot sl hs h tf tz f g V ln kt tl HH HB LL Q hr hQ hk A) (cwV 0 hts gX4_tidy_X4_remember rfl rfl rfl (by decide +kernel) ⟨Nat.le_of_ble_eq_true rfl, Nat.le_of_ble_eq_true rfl⟩) (xPreVw (q0 := 0) hN hP hD (xAll hS hA) rfl rfl rfl) rfl rfl hl.1 rfl (lv_room (Nat.le_of_ble_eq_true rfl)) dX4_tidy_1 ⟨Nat.le_of_ble_eq_true rfl, Nat.le_of_ble_eq_true rfl⟩) (fun u_1 H locs hq_1 hP hD hS => ?_)
  obtain ⟨hs2, tl2, Q2, rfl, hQ2⟩ := hq_1
  have hP : va_P D vwCl ((clsN kA ox os ob ot sl hs2 h tf tz f g (V 0) (V 1) (V 2) ln (pushN kt)) ++ tl2) H := hP
  have hD : va_D A ((clsN kA ox os ob ot sl hs2 h tf tz f g (V 0) (V 1) (V 2) ln (pushN kt)) ++ tl2) := hD
  refine lv_iconst (v := nI 0) hx hb dX4_tidy_4 (by decide) ?_
  refine lv_istore_n (lv' := [(1, .int (nI 0)), (0, .ref (ox 0))]) hx hb dX4_tidy_5 rfl hl (by decide) rfl (fun ls hl => ?_)
  have L6 : ∀ (fuel : Nat), ∀ (t : Nat) (U : Nat → Nat) (ff : Nat → Nat → Int32) (k : Nat) (tf1 : Nat → Nat → Int32) (tz1 : Int32) (hmu : U 0 < fuel) (hU : U 0 ≤ 24) (hWU : WfT (U 0) (TV U)) (hrU : relN U ff g) (hkk : U 0 < k) (htU : t + U 0 ≤ 24) (ht1 : (tdK 25 V).1 = t + (tdK k U).1) (ht2 : (tdK 25 V).2 = (tdK k U).2) (H : Heap) (locs : List Loc) (_ : va_P D vwCl ((clsN kA ox os ob ot sl hs2 h tf1 tz1 ff g (U 0) (U 1) (U 2) ln (pushN kt)) ++ tl2) H) (_ : va_D A ((clsN kA ox os ob ot sl hs2 h tf1 tz1 ff g (U 0) (U 1) (U 2) ln (pushN kt)) ++ tl2)) (_ : va_S A xs.heap H locs) (ls : Array Slot) (_ : lv_has ls 3 [(1, .int (nI t)), (0, .ref (ox 0))]), W xp xl xe (headSpec wsX4_tidy { frames := 7, cells := 14, slots := 212, locals := 156 }).room xs xm ([.ref (ox 0)] : List Value).toArray xbe xme xc H locs 14 212 (MQ xbe (xQi D A (fun r u => r = (opTidy (V, ln, P, kt, HH, HB, LL) ).1 ∧ ClsR kA ox os ob ot (opTidy (V, ln, P, kt, HH, HB, LL) ).2 u)) ([.ref (ox 0)] : List Value).toArray xs 14 212 A) (F0 xm 6 ls []) := by
    intro fuel
    induction fuel with
    | zero => intro t U ff k tf1 tz1 hmu; exact absurd hmu (Nat.not_lt_zero _)
    | succ fuel ih6 =>
      intro t U ff k tf1 tz1 hmu hU hWU hrU hkk htU ht1 ht2 H locs hP hD hS ls hl
      refine lv_iload_n hx hb dX4_tidy_6 rfl (lv_at hl 0 rfl) ?_
      refine lv_bipush (v := nI 24) hx hb dX4_tidy_7 (by decide) ?_
      refine xIcmpGe C (tgt := 42) (by omega) (by decide) dX4_tidy_9 (by decide) (fun h_9 => ?_) (fun h_9 => ?_)
      · skip
        refine lv_bipush (v := nI 24) hx hb dX4_tidy_42 (by decide) ?_
        exact xRetI hx hb hret (v := nI 24) (retC (S2 := (U, ln, P, (pushN kt), (pushH HH kt V), HB, LL)) (by simp [opTidy, ht1, ht2, td_e (show ¬ fiN U < U 0 by omega), show t = 24 by omega]) ⟨sl, hs2, h, tf1, tz1, ff, g, tl2, Q2, rfl, hrU, hpd, hQ2⟩) hP hD hS dX4_tidy_44 hlocks
      · skip
        refine lv_aload_n hx hb dX4_tidy_12 rfl (lv_at hl 1 rfl) ?_
        refine xWWi hS (va_runV (As := []) (rest := []) C (c_X4_firstIdle xl D kA ox os ob ot sl hs2 h tf1 tz1 ff g U ln (pushN kt) tl2 hrU.1 hWU hU A) (cwV 0 hts gX4_tidy_X4_firstIdle rfl rfl rfl (by decide +kernel) ⟨Nat.le_of_ble_eq_true rfl, Nat.le_of_ble_eq_true rfl⟩) (xPreVw (q0 := 0) hN hP hD (xAll hS hA) rfl rfl rfl) rfl rfl hl.1 rfl (lv_room (Nat.le_of_ble_eq_true rfl)) dX4_tidy_13 ⟨Nat.le_of_ble_eq_true rfl, Nat.le_of_ble_eq_true rfl⟩) (fun r_13 u_13 H locs hq_13 hP hD hS => ?_)
        obtain ⟨rfl, tf_13, tz_13, rfl⟩ := hq_13
        have hP : va_P D vwCl ((clsN kA ox os ob ot sl hs2 h tf_13 tz_13 ff g (U 0) (U 1) (U 2) ln (pushN kt)) ++ tl2) H := hP
        have hD : va_D A ((clsN kA ox os ob ot sl hs2 h tf_13 tz_13 ff g (U 0) (U 1) (U 2) ln (pushN kt)) ++ tl2) := hD
        refine lv_istore_n (lv' := [(2, .int (fiR U)), (1, .int (nI t)), (0, .ref (ox 0))]) hx hb dX4_tidy_16 rfl hl (by decide) rfl (fun ls hl => ?_)
        refine lv_iload_n hx hb dX4_tidy_17 rfl (lv_at hl 0 rfl) ?_
        refine lv_bipush (v := (-6)) hx hb dX4_tidy_18 (by decide) ?_
        refine lv_icmp_ne (tgt := 25) hx hb dX4_tidy_20 (by decide) (fun h_20 => ?_) (fun h_20 => ?_)
        · skip
          obtain ⟨c_20, e_20⟩ := fi_ne h_20
          rw [e_20] at hl
          refine lv_aload_n hx hb dX4_tidy_25 rfl (lv_at hl 2 rfl) ?_
          refine xGet C hN hP 0 (j := 0) rfl rfl iX4_tidy_X4 (by decide) kX4_tidy_12 rfl rfl dX4_tidy_26 ?_
          refine xGet C hN hP 12 (j := 0) rfl rfl iX4_tidy_X3 (by decide) kX4_tidy_52 rfl rfl dX4_tidy_29 ?_
          refine lv_iload_n hx hb dX4_tidy_32 rfl (lv_at hl 0 rfl) ?_
          refine xWv (L := (clsN kA ox os ob ot sl hs2 h tf_13 tz_13 ff g (U 0) (U 1) (U 2) ln (pushN kt))) (tl := tl2) (wc := (rulW kA (fun i => os (i + 1)) ff (nI (U 0)))) (wr := ([0, 1, 2, 3, 4, 5, 6, 7, 8, 9, 10, 11, 12, 20, 21, 22, 23, 24, 25].filterMap (fun i => ((clsN kA ox os ob ot sl hs2 h tf_13 tz_13 ff g (U 0) (U 1) (U 2) ln (pushN kt)))[i]?))) hP hD hS hA [13, 14, 15, 16, 17, 18, 19] [0, 1, 2, 3, 4, 5, 6, 7, 8, 9, 10, 11, 12, 20, 21, 22, 23, 24, 25] rfl rfl (by decide) (by decide) (va_runV (As := [.int (nI (fiN U))]) (rest := []) C (c_X2_remove xl D kA (fun i => os (i + 1)) ff (U 0) (fiN U) c_20 (by omega) _) (cwV 1 hts gX4_tidy_X2_remove rfl rfl rfl (by decide +kernel) ⟨Nat.le_of_ble_eq_true rfl, Nat.le_of_ble_eq_true rfl⟩) (xPreVw (q0 := 0) hN (xSubL (wc := (rulW kA (fun i => os (i + 1)) ff (nI (U 0)))) (L := (clsN kA ox os ob ot sl hs2 h tf_13 tz_13 ff g (U 0) (U 1) (U 2) ln (pushN kt))) (tl := tl2) hP [13, 14, 15, 16, 17, 18, 19] rfl) (xSubD (wc := (rulW kA (fun i => os (i + 1)) ff (nI (U 0)))) (L := (clsN kA ox os ob ot sl hs2 h tf_13 tz_13 ff g (U 0) (U 1) (U 2) ln (pushN kt))) (tl := tl2) hD [13, 14, 15, 16, 17, 18, 19] (by decide) rfl).self (fun _ h => Or.inr h) rfl rfl rfl) rfl rfl hl.1 rfl (lv_room (Nat.le_of_ble_eq_true rfl)) dX4_tidy_33 ⟨Nat.le_of_ble_eq_true rfl, Nat.le_of_ble_eq_true rfl⟩) (fun u_33 H locs hq_33 hP hD hS => ?_)
          subst hq_33
          have hD : va_D A ((clsN kA ox os ob ot sl hs2 h tf_13 tz_13 (delF ff (fiN U)) g (U 0 - 1) (U 1) (U 2) ln (pushN kt)) ++ tl2) := xPermD (tl := tl2) hD [0, 1, 2, 3, 4, 5, 6, 7, 8, 9, 10, 11, 12, 19, 20, 21, 22, 23, 24, 25, 13, 14, 15, 16, 17, 18] (by decide) rfl
          have hP : va_P D vwCl ((clsN kA ox os ob ot sl hs2 h tf_13 tz_13 (delF ff (fiN U)) g (U 0 - 1) (U 1) (U 2) ln (pushN kt)) ++ tl2) H := xPermP (tl := tl2) hP [0, 1, 2, 3, 4, 5, 6, 7, 8, 9, 10, 11, 12, 19, 20, 21, 22, 23, 24, 25, 13, 14, 15, 16, 17, 18] rfl
          rw [clsU (U := strV U (fiN U)) (n := U 0 - 1) rfl sz_str.1 sz_str.2] at hP hD
          refine xIinc C (kx := 1) (d := 1) (lv' := [(1, .int (nI (t + 1))), (2, .int (nI (fiN U))), (0, .ref (ox 0))]) dX4_tidy_36 hl rfl (by decide) (by decide) rfl (fun ls hl => ?_)
          refine lv_goto (tgt := 6) hx hb dX4_tidy_39 (by decide) ?_
          have hP : va_P D vwCl ((clsN kA ox os ob ot sl hs2 h tf_13 tz_13 (delF ff (fiN U)) g (strV U (fiN U) 0) (strV U (fiN U) 1) (strV U (fiN U) 2) ln (pushN kt)) ++ tl2) H := hP
          exact ih6 (t + 1) (strV U (fiN U)) (delF ff (fiN U)) (k - 1) tf_13 tz_13 (by show U 0 - 1 < fuel; omega) (by show U 0 - 1 ≤ 24; omega) (WfT_str hWU) (relN_str hrU c_20 hU) (by show U 0 - 1 < k - 1; omega) (by show t + 1 + (U 0 - 1) ≤ 24; omega) (by rw [ht1, td_s hkk c_20]; show t + (_ + 1) = t + 1 + _; omega) (by rw [ht2, td_s hkk c_20]) _ _ hP hD hS _ (lv_sub hl [0, 2] rfl)
        · skip
          have c_20 := fi_eq h_20 hU
          refine lv_iload_n hx hb dX4_tidy_23 rfl (lv_at hl 1 rfl) ?_
          exact xRetI hx hb hret (v := nI t) (retC (S2 := (U, ln, P, (pushN kt), (pushH HH kt V), HB, LL)) (by simp [opTidy, ht1, ht2, td_e c_20]) ⟨sl, hs2, h, tf_13, tz_13, ff, g, tl2, Q2, rfl, hrU, hpd, hQ2⟩) hP hD hS dX4_tidy_24 hlocks
  exact L6 _ 0 V f 25 tf tz (Nat.lt_succ_self _) hV hW hr (by omega) (by omega) ((Nat.zero_add _).symm) rfl _ _ hP hD hS _ (lv_sub hl [0, 1] rfl)

set_option maxHeartbeats 8000000 in
set_option maxRecDepth 100000 in
theorem c_X4_rule (xl : Launch) (D : va_G) (kA : Nat → ClassId) (ox os ob ot : Nat → Nat) (sl hs : Nat → Option Nat) (h : Nat → Int32) (tf : Nat → Nat → Int32) (tz : Int32) (f g : Nat → Nat → Int32) (V : Nat → Nat) (ln kt : Nat) (tl : va_W) (P : Nat → Nat) (HH : Nat → Nat → Nat) (HB : Nat → Bool) (LL : Nat → Nat → Nat) (Q : Nat → Option Ent) (hI : InvS (V, ln, P, kt, HH, HB, LL)) (hr : relN V f g) (hpd : relP h ln P) (hQ : QR kA sl hs tl kt HH HB LL Q) (x w : Int32) (A : Nat → Prop) : Met xl yX4_rule wsX4_rule { frames := 6, cells := 0, slots := 0, locals := 134 } (va_Pc [.ref (ox 0), .int x, .int w] (xPw D kA A ((clsN kA ox os ob ot sl hs h tf tz f g (V 0) (V 1) (V 2) ln kt) ++ tl))) (xQi D A (fun r u => r = (opRule (V, ln, P, kt, HH, HB, LL) x w).1 ∧ ClsR kA ox os ob ot (opRule (V, ln, P, kt, HH, HB, LL) x w).2 u)) 0 0 A := by
  refine Met.ofW (cc := cX4_rule) (maxL := 3) (ret := (some .int)) (by decide) rfl ?_
  intro xp xe xs xm args xbe xme xc s₁ B hml hv
  obtain ⟨rfl, hP, hN, hD, hA⟩ := hv
  have hret := B.returns
  have C : CallFix xp xm xc cX4_rule 3 xs ([.ref (ox 0), .int x, .int w] : List Value).toArray wsX4_rule RX4 := ⟨B.exec, B.bytes, hml, findClass_of_methodNamed B.named, atoms_spec (ws := wsX4_rule) B.pre⟩
  have hlocks := B.notSynchronized
  obtain ⟨hx, hb, _, hown, hts⟩ := id C
  have hS : va_S A xs.heap xs.heap [] := va_S.rf
  have hl := lv_entry ([.ref (ox 0), .int x, .int w]) (n := 3) (Nat.le_of_ble_eq_true rfl)
  rw [lg_entry_eq]
  generalize (lg_sl ([.ref (ox 0), .int x, .int w]) ++ List.replicate (3 - (lg_sl ([.ref (ox 0), .int x, .int w])).length) Slot.unset).toArray = ls at hl ⊢
  have hl : lv_has ls 3 [(0, .ref (ox 0)), (1, .int x), (2, .int w)] := hl
  obtain ⟨⟨hV, hW, hM, hG⟩, hm, hwP, hk, hIH, hIL⟩ := hI
  have hR := hr.1
  refine lv_aload_n hx hb dX4_rule_0 rfl (lv_at hl 0 rfl) ?_
  refine xGet C hN hP 0 (j := 0) rfl rfl iX4_rule_X4 (by decide) kX4_rule_12 rfl rfl dX4_rule_1 ?_
  refine xGet C hN hP 12 (j := 0) rfl rfl iX4_rule_X3 (by decide) kX4_rule_52 rfl rfl dX4_rule_4 ?_
  refine lv_iload_n hx hb dX4_rule_7 rfl (lv_at hl 1 rfl) ?_
  refine xVro C hN (As := [.int x]) (rest := []) (q0 := 0) (c_X2_has xl D kA (fun i => os (i + 1)) f (V 0) x (by omega)) (cwV 1 hts gX4_rule_X2_has rfl rfl rfl (by decide +kernel) ⟨Nat.le_of_ble_eq_true rfl, Nat.le_of_ble_eq_true rfl⟩) (xSubL (wc := (rulW kA (fun i => os (i + 1)) f (nI (V 0)))) hP [13, 14, 15, 16, 17, 18, 19] rfl) rfl rfl rfl rfl hl.1 rfl (Nat.le_of_ble_eq_true rfl) dX4_rule_8 ⟨Nat.le_of_ble_eq_true rfl, Nat.le_of_ble_eq_true rfl⟩ ?_
  refine xIfNeB C (tgt := 16) dX4_rule_11 (by decide) (fun h_11 => ?_) (fun h_11 => ?_)
  · skip
    obtain ⟨i, a_i, e_i, t_i⟩ := hasB_ex h_11 (by omega)
    rw [e_i] at hl
    skip
    refine lv_iload_n hx hb dX4_rule_16 rfl (lv_at hl 2 rfl) ?_
    rcases xTab (x := w) 0 8 (by decide) with h_17 | ⟨j_17, hj_17, e_17⟩
    · refine lv_tableOut (tgt := 181) hx hb dX4_rule_17 (by omega) (by decide) ?_
      have i_w : inR w (nI 0) (nI 7) = false := inR_o h_17
      skip
      refine lv_bipush (v := (-2)) hx hb dX4_rule_181 (by decide) ?_
      exact xRetI hx hb hret (v := (-2)) (retC (S2 := (V, ln, P, kt, HH, HB, LL)) (by simp [opRule, h_11, t_i, i_w]) ⟨sl, hs, h, tf, tz, f, g, tl, Q, rfl, hr, hpd, hQ⟩) hP hD hS dX4_rule_183 hlocks
    · rcases (show j_17 = 0 ∨ j_17 = 1 ∨ j_17 = 2 ∨ j_17 = 3 ∨ j_17 = 4 ∨ j_17 = 5 ∨ j_17 = 6 ∨ j_17 = 7 by omega) with rfl | rfl | rfl | rfl | rfl | rfl | rfl | rfl
      · refine xTabIn C (j := 0) (tgt := 64) e_17 dX4_rule_17 (by decide) (by decide) rfl (by decide) ?_
        have t_w : toN w = 0 := by rw [e_17]; rfl
        have i_w : inR w (nI 0) (nI 7) = true := by rw [e_17]; decide
        skip
        refine lv_aload_n hx hb dX4_rule_64 rfl (lv_at hl 0 rfl) ?_
        refine xGet C hN hP 0 (j := 0) rfl rfl iX4_rule_X4 (by decide) kX4_rule_12 rfl rfl dX4_rule_65 ?_
        refine xGet C hN hP 12 (j := 0) rfl rfl iX4_rule_X3 (by decide) kX4_rule_52 rfl rfl dX4_rule_68 ?_
        refine xGet C hN hP 13 (j := 0) rfl rfl iX4_rule_X2 (by decide) kX4_rule_79 rfl rfl dX4_rule_71 ?_
        refine lv_iload_n hx hb dX4_rule_74 rfl (lv_at hl 1 rfl) ?_
        refine xIald C hN hP 14 (j := i) (v := nI (TV V i 0)) rfl (by omega) (by decide) ((hR i (by omega)).1) dX4_rule_75 ?_
        exact xRetI hx hb hret (v := nI (TV V i 0)) (retC (S2 := (V, ln, P, kt, HH, HB, LL)) (by simp [opRule, ruV, h_11, t_w, i_w, t_i]) ⟨sl, hs, h, tf, tz, f, g, tl, Q, rfl, hr, hpd, hQ⟩) hP hD hS dX4_rule_76 hlocks
      · refine xTabIn C (j := 1) (tgt := 77) e_17 dX4_rule_17 (by decide) (by decide) rfl (by decide) ?_
        have t_w : toN w = 1 := by rw [e_17]; rfl
        have i_w : inR w (nI 0) (nI 7) = true := by rw [e_17]; decide
        skip
        refine lv_aload_n hx hb dX4_rule_77 rfl (lv_at hl 0 rfl) ?_
        refine xGet C hN hP 0 (j := 0) rfl rfl iX4_rule_X4 (by decide) kX4_rule_12 rfl rfl dX4_rule_78 ?_
        refine xGet C hN hP 12 (j := 0) rfl rfl iX4_rule_X3 (by decide) kX4_rule_52 rfl rfl dX4_rule_81 ?_
        refine xGet C hN hP 13 (j := 1) rfl rfl iX4_rule_X2 (by decide) kX4_rule_76 rfl rfl dX4_rule_84 ?_
        refine lv_iload_n hx hb dX4_rule_87 rfl (lv_at hl 1 rfl) ?_
        refine xIald C hN hP 15 (j := i) (v := nI (TV V i 1)) rfl (by omega) (by decide) ((hR i (by omega)).2.1) dX4_rule_88 ?_
        exact xRetI hx hb hret (v := nI (TV V i 1)) (retC (S2 := (V, ln, P, kt, HH, HB, LL)) (by simp [opRule, ruV, h_11, t_w, i_w, t_i]) ⟨sl, hs, h, tf, tz, f, g, tl, Q, rfl, hr, hpd, hQ⟩) hP hD hS dX4_rule_89 hlocks
      · refine xTabIn C (j := 2) (tgt := 90) e_17 dX4_rule_17 (by decide) (by decide) rfl (by decide) ?_
        have t_w : toN w = 2 := by rw [e_17]; rfl
        have i_w : inR w (nI 0) (nI 7) = true := by rw [e_17]; decide
        skip
        refine lv_aload_n hx hb dX4_rule_90 rfl (lv_at hl 0 rfl) ?_
        refine xGet C hN hP 0 (j := 0) rfl rfl iX4_rule_X4 (by decide) kX4_rule_12 rfl rfl dX4_rule_91 ?_
        refine xGet C hN hP 12 (j := 0) rfl rfl iX4_rule_X3 (by decide) kX4_rule_52 rfl rfl dX4_rule_94 ?_
        refine xGet C hN hP 13 (j := 2) rfl rfl iX4_rule_X2 (by decide) kX4_rule_142 rfl rfl dX4_rule_97 ?_
        refine lv_iload_n hx hb dX4_rule_100 rfl (lv_at hl 1 rfl) ?_
        refine xIald C hN hP 16 (j := i) (v := nI (TV V i 2)) rfl (by omega) (by decide) ((hR i (by omega)).2.2.1) dX4_rule_101 ?_
        exact xRetI hx hb hret (v := nI (TV V i 2)) (retC (S2 := (V, ln, P, kt, HH, HB, LL)) (by simp [opRule, ruV, h_11, t_w, i_w, t_i]) ⟨sl, hs, h, tf, tz, f, g, tl, Q, rfl, hr, hpd, hQ⟩) hP hD hS dX4_rule_102 hlocks
      · refine xTabIn C (j := 3) (tgt := 103) e_17 dX4_rule_17 (by decide) (by decide) rfl (by decide) ?_
        have t_w : toN w = 3 := by rw [e_17]; rfl
        have i_w : inR w (nI 0) (nI 7) = true := by rw [e_17]; decide
        skip
        refine lv_aload_n hx hb dX4_rule_103 rfl (lv_at hl 0 rfl) ?_
        refine xGet C hN hP 0 (j := 0) rfl rfl iX4_rule_X4 (by decide) kX4_rule_12 rfl rfl dX4_rule_104 ?_
        refine xGet C hN hP 12 (j := 0) rfl rfl iX4_rule_X3 (by decide) kX4_rule_52 rfl rfl dX4_rule_107 ?_
        refine xGet C hN hP 13 (j := 3) rfl rfl iX4_rule_X2 (by decide) kX4_rule_143 rfl rfl dX4_rule_110 ?_
        refine lv_iload_n hx hb dX4_rule_113 rfl (lv_at hl 1 rfl) ?_
        refine xIald C hN hP 17 (j := i) (v := nI (TV V i 3)) rfl (by omega) (by decide) ((hR i (by omega)).2.2.2.1) dX4_rule_114 ?_
        exact xRetI hx hb hret (v := nI (TV V i 3)) (retC (S2 := (V, ln, P, kt, HH, HB, LL)) (by simp [opRule, ruV, h_11, t_w, i_w, t_i]) ⟨sl, hs, h, tf, tz, f, g, tl, Q, rfl, hr, hpd, hQ⟩) hP hD hS dX4_rule_115 hlocks
      · refine xTabIn C (j := 4) (tgt := 116) e_17 dX4_rule_17 (by decide) (by decide) rfl (by decide) ?_
        have t_w : toN w = 4 := by rw [e_17]; rfl
        have i_w : inR w (nI 0) (nI 7) = true := by rw [e_17]; decide
        skip
        refine lv_aload_n hx hb dX4_rule_116 rfl (lv_at hl 0 rfl) ?_
        refine xGet C hN hP 0 (j := 0) rfl rfl iX4_rule_X4 (by decide) kX4_rule_12 rfl rfl dX4_rule_117 ?_
        refine xGet C hN hP 12 (j := 0) rfl rfl iX4_rule_X3 (by decide) kX4_rule_52 rfl rfl dX4_rule_120 ?_
        refine xGet C hN hP 13 (j := 4) rfl rfl iX4_rule_X2 (by decide) kX4_rule_72 rfl rfl dX4_rule_123 ?_
        refine lv_iload_n hx hb dX4_rule_126 rfl (lv_at hl 1 rfl) ?_
        refine xIald C hN hP 18 (j := i) (v := nI (TV V i 4)) rfl (by omega) (by decide) ((hR i (by omega)).2.2.2.2.1) dX4_rule_127 ?_
        exact xRetI hx hb hret (v := nI (TV V i 4)) (retC (S2 := (V, ln, P, kt, HH, HB, LL)) (by simp [opRule, ruV, h_11, t_w, i_w, t_i]) ⟨sl, hs, h, tf, tz, f, g, tl, Q, rfl, hr, hpd, hQ⟩) hP hD hS dX4_rule_128 hlocks
      · refine xTabIn C (j := 5) (tgt := 129) e_17 dX4_rule_17 (by decide) (by decide) rfl (by decide) ?_
        have t_w : toN w = 5 := by rw [e_17]; rfl
        have i_w : inR w (nI 0) (nI 7) = true := by rw [e_17]; decide
        skip
        refine lv_aload_n hx hb dX4_rule_129 rfl (lv_at hl 0 rfl) ?_
        refine lv_iload_n hx hb dX4_rule_130 rfl (lv_at hl 1 rfl) ?_
        refine lv_aload_n hx hb dX4_rule_131 rfl (lv_at hl 0 rfl) ?_
        refine xGet C hN hP 0 (j := 0) rfl rfl iX4_rule_X4 (by decide) kX4_rule_12 rfl rfl dX4_rule_132 ?_
        refine xGet C hN hP 12 (j := 0) rfl rfl iX4_rule_X3 (by decide) kX4_rule_52 rfl rfl dX4_rule_135 ?_
        refine xVro C hN (As := []) (rest := [.int (nI i), .ref (ox 0)]) (q0 := 0) (c_X2_triples xl D kA (fun i => os (i + 1)) f (V 0) (TV V) hR hW (by omega)) (cwV 0 hts gX4_rule_X2_triples rfl rfl rfl (by decide +kernel) ⟨Nat.le_of_ble_eq_true rfl, Nat.le_of_ble_eq_true rfl⟩) (xSubL (wc := (rulW kA (fun i => os (i + 1)) f (nI (V 0)))) hP [13, 14, 15, 16, 17, 18, 19] rfl) rfl rfl rfl rfl hl.1 rfl (Nat.le_of_ble_eq_true rfl) dX4_rule_138 ⟨Nat.le_of_ble_eq_true rfl, Nat.le_of_ble_eq_true rfl⟩ ?_
        refine xWWi hS (va_runV (As := [.int (nI i), .int (nI (trpT (V 0) (TV V)))]) (rest := []) C (c_X4_isIdle xl D kA ox os ob ot sl hs h tf tz f g V ln kt tl hR hW hV i (trpT (V 0) (TV V)) (by omega) (by have := trp_le (n := V 0) (T := TV V); omega) A) (cwV 2 hts gX4_rule_X4_isIdle rfl rfl rfl (by decide +kernel) ⟨Nat.le_of_ble_eq_true rfl, Nat.le_of_ble_eq_true rfl⟩) (xPreVw (q0 := 0) hN hP hD (xAll hS hA) rfl rfl rfl) rfl rfl hl.1 rfl (lv_room (Nat.le_of_ble_eq_true rfl)) dX4_rule_141 ⟨Nat.le_of_ble_eq_true rfl, Nat.le_of_ble_eq_true rfl⟩) (fun r_141 u_141 H locs hq_141 hP hD hS => ?_)
        obtain ⟨rfl, tf_141, tz_141, rfl⟩ := hq_141
        have hP : va_P D vwCl ((clsN kA ox os ob ot sl hs h tf_141 tz_141 f g (V 0) (V 1) (V 2) ln kt) ++ tl) H := hP
        have hD : va_D A ((clsN kA ox os ob ot sl hs h tf_141 tz_141 f g (V 0) (V 1) (V 2) ln kt) ++ tl) := hD
        refine xTop (y := bI (idB V i)) (congrArg bI (idle_eq hW (by omega) (by omega)).symm) ?_
        refine xIfEqB C (tgt := 151) dX4_rule_144 (by decide) (fun h_144 => ?_) (fun h_144 => ?_)
        · skip
          refine lv_iconst (v := nI 0) hx hb dX4_rule_151 (by decide) ?_
          exact xRetI hx hb hret (v := nI 0) (retC (S2 := (V, ln, P, kt, HH, HB, LL)) (by simp [opRule, ruV, h_11, t_w, i_w, t_i, h_144]; rfl) ⟨sl, hs, h, tf_141, tz_141, f, g, tl, Q, rfl, hr, hpd, hQ⟩) hP hD hS dX4_rule_152 hlocks
        · skip
          refine lv_iconst (v := nI 1) hx hb dX4_rule_147 (by decide) ?_
          refine lv_goto (tgt := 152) hx hb dX4_rule_148 (by decide) ?_
          exact xRetI hx hb hret (v := nI 1) (retC (S2 := (V, ln, P, kt, HH, HB, LL)) (by simp [opRule, ruV, h_11, t_w, i_w, t_i, h_144]; rfl) ⟨sl, hs, h, tf_141, tz_141, f, g, tl, Q, rfl, hr, hpd, hQ⟩) hP hD hS dX4_rule_152 hlocks
      · refine xTabIn C (j := 6) (tgt := 153) e_17 dX4_rule_17 (by decide) (by decide) rfl (by decide) ?_
        have t_w : toN w = 6 := by rw [e_17]; rfl
        have i_w : inR w (nI 0) (nI 7) = true := by rw [e_17]; decide
        skip
        refine lv_aload_n hx hb dX4_rule_153 rfl (lv_at hl 0 rfl) ?_
        refine xGet C hN hP 0 (j := 0) rfl rfl iX4_rule_X4 (by decide) kX4_rule_12 rfl rfl dX4_rule_154 ?_
        refine xGet C hN hP 12 (j := 0) rfl rfl iX4_rule_X3 (by decide) kX4_rule_52 rfl rfl dX4_rule_157 ?_
        refine lv_iload_n hx hb dX4_rule_160 rfl (lv_at hl 1 rfl) ?_
        refine xVro C hN (As := [.int (nI i)]) (rest := []) (q0 := 0) (c_X2_oddsOf xl D kA (fun i => os (i + 1)) f (V 0) (TV V) hR hW (by omega) i (by omega)) (cwV 1 hts gX4_rule_X2_oddsOf rfl rfl rfl (by decide +kernel) ⟨Nat.le_of_ble_eq_true rfl, Nat.le_of_ble_eq_true rfl⟩) (xSubL (wc := (rulW kA (fun i => os (i + 1)) f (nI (V 0)))) hP [13, 14, 15, 16, 17, 18, 19] rfl) rfl rfl rfl rfl hl.1 rfl (Nat.le_of_ble_eq_true rfl) dX4_rule_161 ⟨Nat.le_of_ble_eq_true rfl, Nat.le_of_ble_eq_true rfl⟩ ?_
        exact xRetI hx hb hret (v := nI (cntN (V 0) (fun j => oddT (TV V) i j))) (retC (S2 := (V, ln, P, kt, HH, HB, LL)) (by simp [opRule, ruV, h_11, t_w, i_w, t_i]) ⟨sl, hs, h, tf, tz, f, g, tl, Q, rfl, hr, hpd, hQ⟩) hP hD hS dX4_rule_164 hlocks
      · refine xTabIn C (j := 7) (tgt := 165) e_17 dX4_rule_17 (by decide) (by decide) rfl (by decide) ?_
        have t_w : toN w = 7 := by rw [e_17]; rfl
        have i_w : inR w (nI 0) (nI 7) = true := by rw [e_17]; decide
        skip
        refine lv_aload_n hx hb dX4_rule_165 rfl (lv_at hl 0 rfl) ?_
        refine xGet C hN hP 0 (j := 0) rfl rfl iX4_rule_X4 (by decide) kX4_rule_12 rfl rfl dX4_rule_166 ?_
        refine xGet C hN hP 12 (j := 0) rfl rfl iX4_rule_X3 (by decide) kX4_rule_52 rfl rfl dX4_rule_169 ?_
        refine xGet C hN hP 13 (j := 5) rfl rfl iX4_rule_X2 (by decide) kX4_rule_157 rfl rfl dX4_rule_172 ?_
        refine lv_iload_n hx hb dX4_rule_175 rfl (lv_at hl 1 rfl) ?_
        refine xIald C hN hP 19 (j := i) (v := nI (maskN 30 (pfit (TV V i 2) (TV V i 3)))) rfl (by omega) (by decide) ((hR i (by omega)).2.2.2.2.2) dX4_rule_176 ?_
        refine xSro C hN (As := [.int (nI (maskN 30 (pfit (TV V i 2) (TV V i 3))))]) (rest := []) (c_J6_bitCount_0f7a4 xl D kA (maskN 30 (pfit (TV V i 2) (TV V i 3))) (Nat.lt_trans (maskN_lt _ 30) (by decide))) (va_cwS 1 hts gX4_rule_J6_bitCount_0f7a4 rfl rfl rfl (by decide +kernel) ⟨Nat.le_of_ble_eq_true rfl, Nat.le_of_ble_eq_true rfl⟩) (xSubL (wc := []) hP [] rfl) rfl hl.1 rfl (Nat.le_of_ble_eq_true rfl) dX4_rule_177 ⟨Nat.le_of_ble_eq_true rfl, Nat.le_of_ble_eq_true rfl⟩ ?_
        refine xTop (y := nI ((if TV V i 2 = 5 then 5 else 1) * (if TV V i 3 = 6 then 6 else 1))) (congrArg nI (pop_pfit (by have := hW i (by omega); omega) (by have := hW i (by omega); omega))) ?_
        exact xRetI hx hb hret (v := nI ((if TV V i 2 = 5 then 5 else 1) * (if TV V i 3 = 6 then 6 else 1))) (retC (S2 := (V, ln, P, kt, HH, HB, LL)) (by simp [opRule, ruV, h_11, t_w, i_w, t_i]) ⟨sl, hs, h, tf, tz, f, g, tl, Q, rfl, hr, hpd, hQ⟩) hP hD hS dX4_rule_180 hlocks
  · skip
    refine lv_iconst (v := (-1)) hx hb dX4_rule_14 (by decide) ?_
    exact xRetI hx hb hret (v := (-1)) (retC (S2 := (V, ln, P, kt, HH, HB, LL)) (by simp [opRule, h_11]) ⟨sl, hs, h, tf, tz, f, g, tl, Q, rfl, hr, hpd, hQ⟩) hP hD hS dX4_rule_15 hlocks

set_option maxHeartbeats 8000000 in
set_option maxRecDepth 100000 in
theorem c_X4_member (xl : Launch) (D : va_G) (kA : Nat → ClassId) (ox os ob ot : Nat → Nat) (sl hs : Nat → Option Nat) (h : Nat → Int32) (tf : Nat → Nat → Int32) (tz : Int32) (f g : Nat → Nat → Int32) (V : Nat → Nat) (ln kt : Nat) (tl : va_W) (P : Nat → Nat) (HH : Nat → Nat → Nat) (HB : Nat → Bool) (LL : Nat → Nat → Nat) (Q : Nat → Option Ent) (hI : InvS (V, ln, P, kt, HH, HB, LL)) (hr : relN V f g) (hpd : relP h ln P) (hQ : QR kA sl hs tl kt HH HB LL Q) (x w : Int32) (A : Nat → Prop) : Met xl yX4_member wsX4_member { frames := 5, cells := 0, slots := 0, locals := 113 } (va_Pc [.ref (ox 0), .int x, .int w] (xPw D kA A ((clsN kA ox os ob ot sl hs h tf tz f g (V 0) (V 1) (V 2) ln kt) ++ tl))) (xQi D A (fun r u => r = (opMember (V, ln, P, kt, HH, HB, LL) x w).1 ∧ ClsR kA ox os ob ot (opMember (V, ln, P, kt, HH, HB, LL) x w).2 u)) 0 0 A := by
  refine Met.ofW (cc := cX4_member) (maxL := 3) (ret := (some .int)) (by decide) rfl ?_
  intro xp xe xs xm args xbe xme xc s₁ B hml hv
  obtain ⟨rfl, hP, hN, hD, hA⟩ := hv
  have hret := B.returns
  have C : CallFix xp xm xc cX4_member 3 xs ([.ref (ox 0), .int x, .int w] : List Value).toArray wsX4_member RX4 := ⟨B.exec, B.bytes, hml, findClass_of_methodNamed B.named, atoms_spec (ws := wsX4_member) B.pre⟩
  have hlocks := B.notSynchronized
  obtain ⟨hx, hb, _, hown, hts⟩ := id C
  have hS : va_S A xs.heap xs.heap [] := va_S.rf
  have hl := lv_entry ([.ref (ox 0), .int x, .int w]) (n := 3) (Nat.le_of_ble_eq_true rfl)
  rw [lg_entry_eq]
  generalize (lg_sl ([.ref (ox 0), .int x, .int w]) ++ List.replicate (3 - (lg_sl ([.ref (ox 0), .int x, .int w])).length) Slot.unset).toArray = ls at hl ⊢
  have hl : lv_has ls 3 [(0, .ref (ox 0)), (1, .int x), (2, .int w)] := hl
  obtain ⟨⟨hV, hW, hM, hG⟩, hm, hwP, hk, hIH, hIL⟩ := hI
  have hR := hr.1
  refine lv_aload_n hx hb dX4_member_0 rfl (lv_at hl 0 rfl) ?_
  refine xGet C hN hP 0 (j := 0) rfl rfl iX4_member_X4 (by decide) kX4_member_12 rfl rfl dX4_member_1 ?_
  refine xGet C hN hP 12 (j := 1) rfl rfl iX4_member_X3 (by decide) kX4_member_105 rfl rfl dX4_member_4 ?_
  refine lv_iload_n hx hb dX4_member_7 rfl (lv_at hl 1 rfl) ?_
  refine xVro C hN (As := [.int x]) (rest := []) (q0 := 0) (c_X0_has xl D kA (fun i => os (i + 8)) g (nI (V 2)) (V 1) x (by omega)) (cwV 1 hts gX4_member_X0_has rfl rfl rfl (by decide +kernel) ⟨Nat.le_of_ble_eq_true rfl, Nat.le_of_ble_eq_true rfl⟩) (xSubL (wc := (gldW kA (fun i => os (i + 8)) g (nI (V 1)) (nI (V 2)))) hP [20, 21, 22, 23, 24, 25] rfl) rfl rfl rfl rfl hl.1 rfl (Nat.le_of_ble_eq_true rfl) dX4_member_8 ⟨Nat.le_of_ble_eq_true rfl, Nat.le_of_ble_eq_true rfl⟩ ?_
  refine xIfNeB C (tgt := 16) dX4_member_11 (by decide) (fun h_11 => ?_) (fun h_11 => ?_)
  · skip
    obtain ⟨i, a_i, e_i, t_i⟩ := hasB_ex h_11 (by omega)
    rw [e_i] at hl
    skip
    refine lv_iload_n hx hb dX4_member_16 rfl (lv_at hl 2 rfl) ?_
    rcases xTab (x := w) 0 5 (by decide) with h_17 | ⟨j_17, hj_17, e_17⟩
    · refine lv_tableOut (tgt := 133) hx hb dX4_member_17 (by omega) (by decide) ?_
      have i_w : inR w (nI 0) (nI 4) = false := inR_o h_17
      skip
      refine lv_bipush (v := (-2)) hx hb dX4_member_133 (by decide) ?_
      exact xRetI hx hb hret (v := (-2)) (retC (S2 := (V, ln, P, kt, HH, HB, LL)) (by simp [opMember, h_11, t_i, i_w]) ⟨sl, hs, h, tf, tz, f, g, tl, Q, rfl, hr, hpd, hQ⟩) hP hD hS dX4_member_135 hlocks
    · rcases (show j_17 = 0 ∨ j_17 = 1 ∨ j_17 = 2 ∨ j_17 = 3 ∨ j_17 = 4 by omega) with rfl | rfl | rfl | rfl | rfl
      · refine xTabIn C (j := 0) (tgt := 52) e_17 dX4_member_17 (by decide) (by decide) rfl (by decide) ?_
        have t_w : toN w = 0 := by rw [e_17]; rfl
        have i_w : inR w (nI 0) (nI 4) = true := by rw [e_17]; decide
        skip
        refine lv_aload_n hx hb dX4_member_52 rfl (lv_at hl 0 rfl) ?_
        refine xGet C hN hP 0 (j := 0) rfl rfl iX4_member_X4 (by decide) kX4_member_12 rfl rfl dX4_member_53 ?_
        refine xGet C hN hP 12 (j := 1) rfl rfl iX4_member_X3 (by decide) kX4_member_105 rfl rfl dX4_member_56 ?_
        refine xGet C hN hP 20 (j := 0) rfl rfl iX4_member_X0 (by decide) kX4_member_126 rfl rfl dX4_member_59 ?_
        refine lv_iload_n hx hb dX4_member_62 rfl (lv_at hl 1 rfl) ?_
        refine xIald C hN hP 21 (j := i) (v := nI (V (129 + 4 * i + 0))) rfl (by omega) (by decide) (hr.2.1 i (by omega) 0 (by decide)) dX4_member_63 ?_
        exact xRetI hx hb hret (v := nI (V (129 + 4 * i + 0))) (retC (S2 := (V, ln, P, kt, HH, HB, LL)) (by simp [opMember, meV, h_11, t_w, i_w, t_i]) ⟨sl, hs, h, tf, tz, f, g, tl, Q, rfl, hr, hpd, hQ⟩) hP hD hS dX4_member_64 hlocks
      · refine xTabIn C (j := 1) (tgt := 65) e_17 dX4_member_17 (by decide) (by decide) rfl (by decide) ?_
        have t_w : toN w = 1 := by rw [e_17]; rfl
        have i_w : inR w (nI 0) (nI 4) = true := by rw [e_17]; decide
        skip
        refine lv_aload_n hx hb dX4_member_65 rfl (lv_at hl 0 rfl) ?_
        refine xGet C hN hP 0 (j := 0) rfl rfl iX4_member_X4 (by decide) kX4_member_12 rfl rfl dX4_member_66 ?_
        refine xGet C hN hP 12 (j := 1) rfl rfl iX4_member_X3 (by decide) kX4_member_105 rfl rfl dX4_member_69 ?_
        refine xGet C hN hP 20 (j := 1) rfl rfl iX4_member_X0 (by decide) kX4_member_120 rfl rfl dX4_member_72 ?_
        refine lv_iload_n hx hb dX4_member_75 rfl (lv_at hl 1 rfl) ?_
        refine xIald C hN hP 22 (j := i) (v := nI (V (129 + 4 * i + 1))) rfl (by omega) (by decide) (hr.2.1 i (by omega) 1 (by decide)) dX4_member_76 ?_
        exact xRetI hx hb hret (v := nI (V (129 + 4 * i + 1))) (retC (S2 := (V, ln, P, kt, HH, HB, LL)) (by simp [opMember, meV, h_11, t_w, i_w, t_i]) ⟨sl, hs, h, tf, tz, f, g, tl, Q, rfl, hr, hpd, hQ⟩) hP hD hS dX4_member_77 hlocks
      · refine xTabIn C (j := 2) (tgt := 78) e_17 dX4_member_17 (by decide) (by decide) rfl (by decide) ?_
        have t_w : toN w = 2 := by rw [e_17]; rfl
        have i_w : inR w (nI 0) (nI 4) = true := by rw [e_17]; decide
        skip
        refine lv_aload_n hx hb dX4_member_78 rfl (lv_at hl 0 rfl) ?_
        refine lv_aload_n hx hb dX4_member_79 rfl (lv_at hl 0 rfl) ?_
        refine xGet C hN hP 0 (j := 0) rfl rfl iX4_member_X4 (by decide) kX4_member_12 rfl rfl dX4_member_80 ?_
        refine xGet C hN hP 12 (j := 1) rfl rfl iX4_member_X3 (by decide) kX4_member_105 rfl rfl dX4_member_83 ?_
        refine xGet C hN hP 20 (j := 0) rfl rfl iX4_member_X0 (by decide) kX4_member_126 rfl rfl dX4_member_86 ?_
        refine lv_iload_n hx hb dX4_member_89 rfl (lv_at hl 1 rfl) ?_
        refine xIald C hN hP 21 (j := i) (v := nI (V (129 + 4 * i + 0))) rfl (by omega) (by decide) (hr.2.1 i (by omega) 0 (by decide)) dX4_member_90 ?_
        refine lv_aload_n hx hb dX4_member_91 rfl (lv_at hl 0 rfl) ?_
        refine xGet C hN hP 0 (j := 0) rfl rfl iX4_member_X4 (by decide) kX4_member_12 rfl rfl dX4_member_92 ?_
        refine xGet C hN hP 12 (j := 1) rfl rfl iX4_member_X3 (by decide) kX4_member_105 rfl rfl dX4_member_95 ?_
        refine xGet C hN hP 20 (j := 1) rfl rfl iX4_member_X0 (by decide) kX4_member_120 rfl rfl dX4_member_98 ?_
        refine lv_iload_n hx hb dX4_member_101 rfl (lv_at hl 1 rfl) ?_
        refine xIald C hN hP 22 (j := i) (v := nI (V (129 + 4 * i + 1))) rfl (by omega) (by decide) (hr.2.1 i (by omega) 1 (by decide)) dX4_member_102 ?_
        refine xVro C hN (As := [.int (nI (V (129 + 4 * i + 0))), .int (nI (V (129 + 4 * i + 1)))]) (rest := []) (q0 := 0) (c_X4_deedsAllowed xl D kA ox os ob ot sl hs h tf tz f g V ln kt hR hW hV (V (129 + 4 * i + 0)) (V (129 + 4 * i + 1)) (hG i (by omega)).1 (by have := (hG i (by omega)).2; omega)) (cwV 2 hts gX4_member_X4_deedsAllowed rfl rfl rfl (by decide +kernel) ⟨Nat.le_of_ble_eq_true rfl, Nat.le_of_ble_eq_true rfl⟩) (xSubL (wc := (clsN kA ox os ob ot sl hs h tf tz f g (V 0) (V 1) (V 2) ln kt)) hP [0, 1, 2, 3, 4, 5, 6, 7, 8, 9, 10, 11, 12, 13, 14, 15, 16, 17, 18, 19, 20, 21, 22, 23, 24, 25] rfl) rfl rfl rfl rfl hl.1 rfl (Nat.le_of_ble_eq_true rfl) dX4_member_103 ⟨Nat.le_of_ble_eq_true rfl, Nat.le_of_ble_eq_true rfl⟩ ?_
        exact xRetI hx hb hret (v := nI (maskN 6 (fun d => decide (lstT (V 0) (TV V) (V (129 + 4 * i + 0)) d ≤ V (129 + 4 * i + 1))))) (retC (S2 := (V, ln, P, kt, HH, HB, LL)) (by simp only [opMember, meV, h_11, t_w, i_w, t_i]; rfl) ⟨sl, hs, h, tf, tz, f, g, tl, Q, rfl, hr, hpd, hQ⟩) hP hD hS dX4_member_106 hlocks
      · refine xTabIn C (j := 3) (tgt := 107) e_17 dX4_member_17 (by decide) (by decide) rfl (by decide) ?_
        have t_w : toN w = 3 := by rw [e_17]; rfl
        have i_w : inR w (nI 0) (nI 4) = true := by rw [e_17]; decide
        skip
        refine lv_aload_n hx hb dX4_member_107 rfl (lv_at hl 0 rfl) ?_
        refine xGet C hN hP 0 (j := 0) rfl rfl iX4_member_X4 (by decide) kX4_member_12 rfl rfl dX4_member_108 ?_
        refine xGet C hN hP 12 (j := 1) rfl rfl iX4_member_X3 (by decide) kX4_member_105 rfl rfl dX4_member_111 ?_
        refine xGet C hN hP 20 (j := 2) rfl rfl iX4_member_X0 (by decide) kX4_member_116 rfl rfl dX4_member_114 ?_
        refine lv_iload_n hx hb dX4_member_117 rfl (lv_at hl 1 rfl) ?_
        refine xIald C hN hP 23 (j := i) (v := nI (V (129 + 4 * i + 2))) rfl (by omega) (by decide) (hr.2.1 i (by omega) 2 (by decide)) dX4_member_118 ?_
        exact xRetI hx hb hret (v := nI (V (129 + 4 * i + 2))) (retC (S2 := (V, ln, P, kt, HH, HB, LL)) (by simp [opMember, meV, h_11, t_w, i_w, t_i]) ⟨sl, hs, h, tf, tz, f, g, tl, Q, rfl, hr, hpd, hQ⟩) hP hD hS dX4_member_119 hlocks
      · refine xTabIn C (j := 4) (tgt := 120) e_17 dX4_member_17 (by decide) (by decide) rfl (by decide) ?_
        have t_w : toN w = 4 := by rw [e_17]; rfl
        have i_w : inR w (nI 0) (nI 4) = true := by rw [e_17]; decide
        skip
        refine lv_aload_n hx hb dX4_member_120 rfl (lv_at hl 0 rfl) ?_
        refine xGet C hN hP 0 (j := 0) rfl rfl iX4_member_X4 (by decide) kX4_member_12 rfl rfl dX4_member_121 ?_
        refine xGet C hN hP 12 (j := 1) rfl rfl iX4_member_X3 (by decide) kX4_member_105 rfl rfl dX4_member_124 ?_
        refine xGet C hN hP 20 (j := 3) rfl rfl iX4_member_X0 (by decide) kX4_member_168 rfl rfl dX4_member_127 ?_
        refine lv_iload_n hx hb dX4_member_130 rfl (lv_at hl 1 rfl) ?_
        refine xIald C hN hP 24 (j := i) (v := nI (V (129 + 4 * i + 3))) rfl (by omega) (by decide) (hr.2.1 i (by omega) 3 (by decide)) dX4_member_131 ?_
        exact xRetI hx hb hret (v := nI (V (129 + 4 * i + 3))) (retC (S2 := (V, ln, P, kt, HH, HB, LL)) (by simp [opMember, meV, h_11, t_w, i_w, t_i]) ⟨sl, hs, h, tf, tz, f, g, tl, Q, rfl, hr, hpd, hQ⟩) hP hD hS dX4_member_132 hlocks
  · skip
    refine lv_iconst (v := (-1)) hx hb dX4_member_14 (by decide) ?_
    exact xRetI hx hb hret (v := (-1)) (retC (S2 := (V, ln, P, kt, HH, HB, LL)) (by simp [opMember, h_11]) ⟨sl, hs, h, tf, tz, f, g, tl, Q, rfl, hr, hpd, hQ⟩) hP hD hS dX4_member_15 hlocks

set_option maxHeartbeats 8000000 in
set_option maxRecDepth 100000 in
theorem c_X4_allowed (xl : Launch) (D : va_G) (kA : Nat → ClassId) (ox os ob ot : Nat → Nat) (sl hs : Nat → Option Nat) (h : Nat → Int32) (tf : Nat → Nat → Int32) (tz : Int32) (f g : Nat → Nat → Int32) (V : Nat → Nat) (ln kt : Nat) (tl : va_W) (P : Nat → Nat) (HH : Nat → Nat → Nat) (HB : Nat → Bool) (LL : Nat → Nat → Nat) (Q : Nat → Option Ent) (hI : InvS (V, ln, P, kt, HH, HB, LL)) (hr : relN V f g) (hpd : relP h ln P) (hQ : QR kA sl hs tl kt HH HB LL Q) (c d y w : Int32) (A : Nat → Prop) : Met xl yX4_allowed wsX4_allowed { frames := 3, cells := 0, slots := 0, locals := 89 } (va_Pc [.ref (ox 0), .int c, .int d, .int y, .int w] (xPw D kA A ((clsN kA ox os ob ot sl hs h tf tz f g (V 0) (V 1) (V 2) ln kt) ++ tl))) (xQi D A (fun r u => r = (opAllowed (V, ln, P, kt, HH, HB, LL) c d y w).1 ∧ ClsR kA ox os ob ot (opAllowed (V, ln, P, kt, HH, HB, LL) c d y w).2 u)) 0 0 A := by
  refine Met.ofW (cc := cX4_allowed) (maxL := 7) (ret := (some .int)) (by decide) rfl ?_
  intro xp xe xs xm args xbe xme xc s₁ B hml hv
  obtain ⟨rfl, hP, hN, hD, hA⟩ := hv
  have hret := B.returns
  have C : CallFix xp xm xc cX4_allowed 7 xs ([.ref (ox 0), .int c, .int d, .int y, .int w] : List Value).toArray wsX4_allowed RX4 := ⟨B.exec, B.bytes, hml, findClass_of_methodNamed B.named, atoms_spec (ws := wsX4_allowed) B.pre⟩
  have hlocks := B.notSynchronized
  obtain ⟨hx, hb, _, hown, hts⟩ := id C
  have hS : va_S A xs.heap xs.heap [] := va_S.rf
  have hl := lv_entry ([.ref (ox 0), .int c, .int d, .int y, .int w]) (n := 7) (Nat.le_of_ble_eq_true rfl)
  rw [lg_entry_eq]
  generalize (lg_sl ([.ref (ox 0), .int c, .int d, .int y, .int w]) ++ List.replicate (7 - (lg_sl ([.ref (ox 0), .int c, .int d, .int y, .int w])).length) Slot.unset).toArray = ls at hl ⊢
  have hl : lv_has ls 7 [(0, .ref (ox 0)), (1, .int c), (2, .int d), (3, .int y), (4, .int w)] := hl
  obtain ⟨⟨hV, hW, hM, hG⟩, hm, hwP, hk, hIH, hIL⟩ := hI
  have hR := hr.1
  refine lv_iload_n hx hb dX4_allowed_0 rfl (lv_at hl 1 rfl) ?_
  refine xSro C hN (As := [.int c]) (rest := []) (c_X4_isCraft xl D kA c) (va_cwS 1 hts gX4_allowed_X4_isCraft rfl rfl rfl (by decide +kernel) ⟨Nat.le_of_ble_eq_true rfl, Nat.le_of_ble_eq_true rfl⟩) (xSubL (wc := []) hP [] rfl) rfl hl.1 rfl (Nat.le_of_ble_eq_true rfl) dX4_allowed_1 ⟨Nat.le_of_ble_eq_true rfl, Nat.le_of_ble_eq_true rfl⟩ ?_
  refine xIfEqB C (tgt := 14) dX4_allowed_4 (by decide) (fun h_4 => ?_) (fun h_4 => ?_)
  · skip
    refine lv_iconst (v := (-1)) hx hb dX4_allowed_14 (by decide) ?_
    exact xRetI hx hb hret (v := (-1)) (retC (S2 := (V, ln, P, kt, HH, HB, LL)) (by simp [opAllowed, h_4]) ⟨sl, hs, h, tf, tz, f, g, tl, Q, rfl, hr, hpd, hQ⟩) hP hD hS dX4_allowed_15 hlocks
  · skip
    refine lv_iload_n hx hb dX4_allowed_7 rfl (lv_at hl 2 rfl) ?_
    refine xSro C hN (As := [.int d]) (rest := []) (c_X4_isDeed xl D kA d) (va_cwS 1 hts gX4_allowed_X4_isDeed rfl rfl rfl (by decide +kernel) ⟨Nat.le_of_ble_eq_true rfl, Nat.le_of_ble_eq_true rfl⟩) (xSubL (wc := []) hP [] rfl) rfl hl.1 rfl (Nat.le_of_ble_eq_true rfl) dX4_allowed_8 ⟨Nat.le_of_ble_eq_true rfl, Nat.le_of_ble_eq_true rfl⟩ ?_
    refine xIfNeB C (tgt := 16) dX4_allowed_11 (by decide) (fun h_11 => ?_) (fun h_11 => ?_)
    · skip
      refine lv_iload_n hx hb dX4_allowed_16 rfl (lv_at hl 3 rfl) ?_
      refine xSro C hN (As := [.int y]) (rest := []) (c_X4_isRank xl D kA y) (va_cwS 1 hts gX4_allowed_X4_isRank rfl rfl rfl (by decide +kernel) ⟨Nat.le_of_ble_eq_true rfl, Nat.le_of_ble_eq_true rfl⟩) (xSubL (wc := []) hP [] rfl) rfl hl.1 rfl (Nat.le_of_ble_eq_true rfl) dX4_allowed_17 ⟨Nat.le_of_ble_eq_true rfl, Nat.le_of_ble_eq_true rfl⟩ ?_
      refine xIfEqB C (tgt := 33) dX4_allowed_20 (by decide) (fun h_20 => ?_) (fun h_20 => ?_)
      · skip
        refine lv_bipush (v := (-2)) hx hb dX4_allowed_33 (by decide) ?_
        exact xRetI hx hb hret (v := (-2)) (retC (S2 := (V, ln, P, kt, HH, HB, LL)) (by simp [opAllowed, h_4, h_11, h_20]) ⟨sl, hs, h, tf, tz, f, g, tl, Q, rfl, hr, hpd, hQ⟩) hP hD hS dX4_allowed_35 hlocks
      · skip
        refine lv_iload hx hb dX4_allowed_23 (lv_at hl 4 rfl) ?_
        refine lv_iconst (v := nI 0) hx hb dX4_allowed_25 (by decide) ?_
        refine lv_iconst (v := nI 1) hx hb dX4_allowed_26 (by decide) ?_
        refine xSro C hN (As := [.int w, .int (nI 0), .int (nI 1)]) (rest := []) (c_X4_isBetween xl D kA w (nI 0) (nI 1)) (va_cwS 3 hts gX4_allowed_X4_isBetween rfl rfl rfl (by decide +kernel) ⟨Nat.le_of_ble_eq_true rfl, Nat.le_of_ble_eq_true rfl⟩) (xSubL (wc := []) hP [] rfl) rfl hl.1 rfl (Nat.le_of_ble_eq_true rfl) dX4_allowed_27 ⟨Nat.le_of_ble_eq_true rfl, Nat.le_of_ble_eq_true rfl⟩ ?_
        refine xIfNeB C (tgt := 36) dX4_allowed_30 (by decide) (fun h_30 => ?_) (fun h_30 => ?_)
        · skip
          obtain ⟨c1, a_c1, b_c1, e_c1, t_c1⟩ := inR_ex h_4 (by decide) (by decide)
          rw [e_c1] at hl
          skip
          obtain ⟨d1, a_d1, b_d1, e_d1, t_d1⟩ := inR_ex h_11 (by decide) (by decide)
          rw [e_d1] at hl
          skip
          obtain ⟨r1, a_r1, b_r1, e_r1, t_r1⟩ := inR_ex h_20 (by decide) (by decide)
          rw [e_r1] at hl
          skip
          obtain ⟨w1, a_w1, b_w1, e_w1, t_w1⟩ := inR_ex h_30 (by decide) (by decide)
          rw [e_w1] at hl
          skip
          refine lv_iload_n hx hb dX4_allowed_36 rfl (lv_at hl 1 rfl) ?_
          refine lv_iload_n hx hb dX4_allowed_37 rfl (lv_at hl 2 rfl) ?_
          refine xSro C hN (As := [.int (nI c1), .int (nI d1)]) (rest := []) (c_X4_pairsOf xl D kA c1 d1 (by omega) (by omega)) (va_cwS 2 hts gX4_allowed_X4_pairsOf rfl rfl rfl (by decide +kernel) ⟨Nat.le_of_ble_eq_true rfl, Nat.le_of_ble_eq_true rfl⟩) (xSubL (wc := []) hP [] rfl) rfl hl.1 rfl (Nat.le_of_ble_eq_true rfl) dX4_allowed_38 ⟨Nat.le_of_ble_eq_true rfl, Nat.le_of_ble_eq_true rfl⟩ ?_
          refine lv_istore (lv' := [(5, .int (mk (pfit c1 d1))), (0, .ref (ox 0)), (1, .int (nI c1)), (2, .int (nI d1)), (3, .int (nI r1)), (4, .int (nI w1))]) hx hb dX4_allowed_41 hl (by decide) rfl (fun ls hl => ?_)
          refine lv_iload hx hb dX4_allowed_43 (lv_at hl 5 rfl) ?_
          have J45 : ∀ (ls : Array Slot) (_ : lv_has ls 7 [(5, .int (mk (pfit c1 d1))), (0, .ref (ox 0)), (1, .int (nI c1)), (2, .int (nI d1)), (3, .int (nI r1)), (4, .int (nI w1))]), W xp xl xe (headSpec wsX4_allowed { frames := 3, cells := 0, slots := 0, locals := 89 }).room xs xm ([.ref (ox 0), .int c, .int d, .int y, .int w] : List Value).toArray xbe xme xc xs.heap [] 0 0 (MQ xbe (xQi D A (fun r u => r = (opAllowed (V, ln, P, kt, HH, HB, LL) c d y w).1 ∧ ClsR kA ox os ob ot (opAllowed (V, ln, P, kt, HH, HB, LL) c d y w).2 u)) ([.ref (ox 0), .int c, .int d, .int y, .int w] : List Value).toArray xs 0 0 A) (F0 xm 87 ls [.int (bI (decide (lstT (V 0) (TV V) c1 d1 ≤ r1)))]) := by
            intro   ls hl
            refine lv_istore (lv' := [(6, .int (bI (decide (lstT (V 0) (TV V) c1 d1 ≤ r1)))), (5, .int (mk (pfit c1 d1))), (0, .ref (ox 0)), (1, .int (nI c1)), (2, .int (nI d1)), (3, .int (nI r1)), (4, .int (nI w1))]) hx hb dX4_allowed_87 hl (by decide) rfl (fun ls hl => ?_)
            refine lv_iload hx hb dX4_allowed_89 (lv_at hl 0 rfl) ?_
            refine xIfEqB C (tgt := 98) dX4_allowed_91 (by decide) (fun h_91 => ?_) (fun h_91 => ?_)
            · skip
              refine lv_iconst (v := nI 0) hx hb dX4_allowed_98 (by decide) ?_
              exact xRetI hx hb hret (v := nI 0) (retC (S2 := (V, ln, P, kt, HH, HB, LL)) (by simp only [opAllowed, h_4, h_11, h_20, h_30, t_c1, t_d1, t_r1, h_91]; rfl) ⟨sl, hs, h, tf, tz, f, g, tl, Q, rfl, hr, hpd, hQ⟩) hP hD hS dX4_allowed_99 hlocks
            · skip
              refine lv_iconst (v := nI 1) hx hb dX4_allowed_94 (by decide) ?_
              refine lv_goto (tgt := 99) hx hb dX4_allowed_95 (by decide) ?_
              exact xRetI hx hb hret (v := nI 1) (retC (S2 := (V, ln, P, kt, HH, HB, LL)) (by simp only [opAllowed, h_4, h_11, h_20, h_30, t_c1, t_d1, t_r1, h_91]; rfl) ⟨sl, hs, h, tf, tz, f, g, tl, Q, rfl, hr, hpd, hQ⟩) hP hD hS dX4_allowed_99 hlocks
          refine xIfNe C (tgt := 64) (by omega) dX4_allowed_45 (by decide) (fun h_45 => ?_) (fun h_45 => ?_)
          · skip
            refine lv_aload_n hx hb dX4_allowed_64 rfl (lv_at hl 1 rfl) ?_
            refine xGet C hN hP 0 (j := 0) rfl rfl iX4_allowed_X4 (by decide) kX4_allowed_12 rfl rfl dX4_allowed_65 ?_
            refine xGet C hN hP 12 (j := 0) rfl rfl iX4_allowed_X3 (by decide) kX4_allowed_52 rfl rfl dX4_allowed_68 ?_
            refine lv_iload hx hb dX4_allowed_71 (lv_at hl 0 rfl) ?_
            refine lv_iload_n hx hb dX4_allowed_73 rfl (lv_at hl 4 rfl) ?_
            refine xVro C hN (As := [.int (mk (pfit c1 d1)), .int (nI r1)]) (rest := []) (q0 := 0) (c_X2_reason xl D kA (fun i => os (i + 1)) f (V 0) (TV V) hR hW (by omega) c1 d1 r1 (by omega) (by omega) (by omega)) (cwV 2 hts gX4_allowed_X2_reason rfl rfl rfl (by decide +kernel) ⟨Nat.le_of_ble_eq_true rfl, Nat.le_of_ble_eq_true rfl⟩) (xSubL (wc := (rulW kA (fun i => os (i + 1)) f (nI (V 0)))) hP [13, 14, 15, 16, 17, 18, 19] rfl) rfl rfl rfl rfl hl.1 rfl (Nat.le_of_ble_eq_true rfl) dX4_allowed_74 ⟨Nat.le_of_ble_eq_true rfl, Nat.le_of_ble_eq_true rfl⟩ ?_
            refine lv_bipush (v := (-6)) hx hb dX4_allowed_77 (by decide) ?_
            refine lv_icmp_ne (tgt := 86) hx hb dX4_allowed_79 (by decide) (fun h_79 => ?_) (fun h_79 => ?_)
            · skip
              refine lv_iconst (v := nI 0) hx hb dX4_allowed_86 (by decide) ?_
              refine xTop (y := bI (decide (lstT (V 0) (TV V) c1 d1 ≤ r1))) (by rw [decide_eq_false (fun q => h_79 ((rsn_6 hW (by omega)).mpr q))]; rfl) ?_
              exact J45   _ (lv_sub hl [0, 1, 2, 3, 4, 5] rfl)
            · skip
              refine lv_iconst (v := nI 1) hx hb dX4_allowed_82 (by decide) ?_
              refine xTop (y := bI (decide (lstT (V 0) (TV V) c1 d1 ≤ r1))) (by rw [decide_eq_true ((rsn_6 hW (by omega)).mp h_79)]; rfl) ?_
              refine lv_goto (tgt := 87) hx hb dX4_allowed_83 (by decide) ?_
              exact J45   _ (lv_sub hl [0, 1, 2, 3, 4, 5] rfl)
          · skip
            refine lv_aload_n hx hb dX4_allowed_48 rfl (lv_at hl 1 rfl) ?_
            refine xGet C hN hP 0 (j := 0) rfl rfl iX4_allowed_X4 (by decide) kX4_allowed_12 rfl rfl dX4_allowed_49 ?_
            refine xGet C hN hP 12 (j := 0) rfl rfl iX4_allowed_X3 (by decide) kX4_allowed_52 rfl rfl dX4_allowed_52 ?_
            refine lv_iload hx hb dX4_allowed_55 (lv_at hl 0 rfl) ?_
            refine lv_iload_n hx hb dX4_allowed_57 rfl (lv_at hl 4 rfl) ?_
            refine xVro C hN (As := [.int (mk (pfit c1 d1)), .int (nI r1)]) (rest := []) (q0 := 0) (c_X2_allowsByLayers xl D kA (fun i => os (i + 1)) f (V 0) (TV V) hR hW (by omega) c1 d1 r1 (by omega) (by omega) (by omega)) (cwV 2 hts gX4_allowed_X2_allowsByLayers rfl rfl rfl (by decide +kernel) ⟨Nat.le_of_ble_eq_true rfl, Nat.le_of_ble_eq_true rfl⟩) (xSubL (wc := (rulW kA (fun i => os (i + 1)) f (nI (V 0)))) hP [13, 14, 15, 16, 17, 18, 19] rfl) rfl rfl rfl rfl hl.1 rfl (Nat.le_of_ble_eq_true rfl) dX4_allowed_58 ⟨Nat.le_of_ble_eq_true rfl, Nat.le_of_ble_eq_true rfl⟩ ?_
            refine lv_goto (tgt := 87) hx hb dX4_allowed_61 (by decide) ?_
            exact J45   _ (lv_sub hl [0, 1, 2, 3, 4, 5] rfl)
        · skip
          refine lv_bipush (v := (-2)) hx hb dX4_allowed_33 (by decide) ?_
          exact xRetI hx hb hret (v := (-2)) (retC (S2 := (V, ln, P, kt, HH, HB, LL)) (by simp [opAllowed, h_4, h_11, h_20, h_30]) ⟨sl, hs, h, tf, tz, f, g, tl, Q, rfl, hr, hpd, hQ⟩) hP hD hS dX4_allowed_35 hlocks
    · skip
      refine lv_iconst (v := (-1)) hx hb dX4_allowed_14 (by decide) ?_
      exact xRetI hx hb hret (v := (-1)) (retC (S2 := (V, ln, P, kt, HH, HB, LL)) (by simp [opAllowed, h_4, h_11]) ⟨sl, hs, h, tf, tz, f, g, tl, Q, rfl, hr, hpd, hQ⟩) hP hD hS dX4_allowed_15 hlocks

set_option maxHeartbeats 8000000 in
set_option maxRecDepth 100000 in
theorem c_X4_why (xl : Launch) (D : va_G) (kA : Nat → ClassId) (ox os ob ot : Nat → Nat) (sl hs : Nat → Option Nat) (h : Nat → Int32) (tf : Nat → Nat → Int32) (tz : Int32) (f g : Nat → Nat → Int32) (V : Nat → Nat) (ln kt : Nat) (tl : va_W) (P : Nat → Nat) (HH : Nat → Nat → Nat) (HB : Nat → Bool) (LL : Nat → Nat → Nat) (Q : Nat → Option Ent) (hI : InvS (V, ln, P, kt, HH, HB, LL)) (hr : relN V f g) (hpd : relP h ln P) (hQ : QR kA sl hs tl kt HH HB LL Q) (c d y : Int32) (A : Nat → Prop) : Met xl yX4_why wsX4_why { frames := 3, cells := 0, slots := 0, locals := 70 } (va_Pc [.ref (ox 0), .int c, .int d, .int y] (xPw D kA A ((clsN kA ox os ob ot sl hs h tf tz f g (V 0) (V 1) (V 2) ln kt) ++ tl))) (xQi D A (fun r u => r = (opWhy (V, ln, P, kt, HH, HB, LL) c d y).1 ∧ ClsR kA ox os ob ot (opWhy (V, ln, P, kt, HH, HB, LL) c d y).2 u)) 0 0 A := by
  refine Met.ofW (cc := cX4_why) (maxL := 4) (ret := (some .int)) (by decide) rfl ?_
  intro xp xe xs xm args xbe xme xc s₁ B hml hv
  obtain ⟨rfl, hP, hN, hD, hA⟩ := hv
  have hret := B.returns
  have C : CallFix xp xm xc cX4_why 4 xs ([.ref (ox 0), .int c, .int d, .int y] : List Value).toArray wsX4_why RX4 := ⟨B.exec, B.bytes, hml, findClass_of_methodNamed B.named, atoms_spec (ws := wsX4_why) B.pre⟩
  have hlocks := B.notSynchronized
  obtain ⟨hx, hb, _, hown, hts⟩ := id C
  have hS : va_S A xs.heap xs.heap [] := va_S.rf
  have hl := lv_entry ([.ref (ox 0), .int c, .int d, .int y]) (n := 4) (Nat.le_of_ble_eq_true rfl)
  rw [lg_entry_eq]
  generalize (lg_sl ([.ref (ox 0), .int c, .int d, .int y]) ++ List.replicate (4 - (lg_sl ([.ref (ox 0), .int c, .int d, .int y])).length) Slot.unset).toArray = ls at hl ⊢
  have hl : lv_has ls 4 [(0, .ref (ox 0)), (1, .int c), (2, .int d), (3, .int y)] := hl
  obtain ⟨⟨hV, hW, hM, hG⟩, hm, hwP, hk, hIH, hIL⟩ := hI
  have hR := hr.1
  refine lv_iload_n hx hb dX4_why_0 rfl (lv_at hl 1 rfl) ?_
  refine xSro C hN (As := [.int c]) (rest := []) (c_X4_isCraft xl D kA c) (va_cwS 1 hts gX4_why_X4_isCraft rfl rfl rfl (by decide +kernel) ⟨Nat.le_of_ble_eq_true rfl, Nat.le_of_ble_eq_true rfl⟩) (xSubL (wc := []) hP [] rfl) rfl hl.1 rfl (Nat.le_of_ble_eq_true rfl) dX4_why_1 ⟨Nat.le_of_ble_eq_true rfl, Nat.le_of_ble_eq_true rfl⟩ ?_
  refine xIfEqB C (tgt := 14) dX4_why_4 (by decide) (fun h_4 => ?_) (fun h_4 => ?_)
  · skip
    refine lv_iconst (v := (-1)) hx hb dX4_why_14 (by decide) ?_
    exact xRetI hx hb hret (v := (-1)) (retC (S2 := (V, ln, P, kt, HH, HB, LL)) (by simp [opWhy, h_4]) ⟨sl, hs, h, tf, tz, f, g, tl, Q, rfl, hr, hpd, hQ⟩) hP hD hS dX4_why_15 hlocks
  · skip
    refine lv_iload_n hx hb dX4_why_7 rfl (lv_at hl 2 rfl) ?_
    refine xSro C hN (As := [.int d]) (rest := []) (c_X4_isDeed xl D kA d) (va_cwS 1 hts gX4_why_X4_isDeed rfl rfl rfl (by decide +kernel) ⟨Nat.le_of_ble_eq_true rfl, Nat.le_of_ble_eq_true rfl⟩) (xSubL (wc := []) hP [] rfl) rfl hl.1 rfl (Nat.le_of_ble_eq_true rfl) dX4_why_8 ⟨Nat.le_of_ble_eq_true rfl, Nat.le_of_ble_eq_true rfl⟩ ?_
    refine xIfNeB C (tgt := 16) dX4_why_11 (by decide) (fun h_11 => ?_) (fun h_11 => ?_)
    · skip
      refine lv_iload_n hx hb dX4_why_16 rfl (lv_at hl 3 rfl) ?_
      refine xSro C hN (As := [.int y]) (rest := []) (c_X4_isRank xl D kA y) (va_cwS 1 hts gX4_why_X4_isRank rfl rfl rfl (by decide +kernel) ⟨Nat.le_of_ble_eq_true rfl, Nat.le_of_ble_eq_true rfl⟩) (xSubL (wc := []) hP [] rfl) rfl hl.1 rfl (Nat.le_of_ble_eq_true rfl) dX4_why_17 ⟨Nat.le_of_ble_eq_true rfl, Nat.le_of_ble_eq_true rfl⟩ ?_
      refine xIfNeB C (tgt := 26) dX4_why_20 (by decide) (fun h_20 => ?_) (fun h_20 => ?_)
      · skip
        obtain ⟨c1, a_c1, b_c1, e_c1, t_c1⟩ := inR_ex h_4 (by decide) (by decide)
        rw [e_c1] at hl
        skip
        obtain ⟨d1, a_d1, b_d1, e_d1, t_d1⟩ := inR_ex h_11 (by decide) (by decide)
        rw [e_d1] at hl
        skip
        obtain ⟨r1, a_r1, b_r1, e_r1, t_r1⟩ := inR_ex h_20 (by decide) (by decide)
        rw [e_r1] at hl
        skip
        refine lv_aload_n hx hb dX4_why_26 rfl (lv_at hl 0 rfl) ?_
        refine xGet C hN hP 0 (j := 0) rfl rfl iX4_why_X4 (by decide) kX4_why_12 rfl rfl dX4_why_27 ?_
        refine xGet C hN hP 12 (j := 0) rfl rfl iX4_why_X3 (by decide) kX4_why_52 rfl rfl dX4_why_30 ?_
        refine lv_iload_n hx hb dX4_why_33 rfl (lv_at hl 1 rfl) ?_
        refine lv_iload_n hx hb dX4_why_34 rfl (lv_at hl 2 rfl) ?_
        refine xSro C hN (As := [.int (nI c1), .int (nI d1)]) (rest := [.ref (os 1)]) (c_X4_pairsOf xl D kA c1 d1 (by omega) (by omega)) (va_cwS 2 hts gX4_why_X4_pairsOf rfl rfl rfl (by decide +kernel) ⟨Nat.le_of_ble_eq_true rfl, Nat.le_of_ble_eq_true rfl⟩) (xSubL (wc := []) hP [] rfl) rfl hl.1 rfl (Nat.le_of_ble_eq_true rfl) dX4_why_35 ⟨Nat.le_of_ble_eq_true rfl, Nat.le_of_ble_eq_true rfl⟩ ?_
        refine lv_iload_n hx hb dX4_why_38 rfl (lv_at hl 3 rfl) ?_
        refine xVro C hN (As := [.int (mk (pfit c1 d1)), .int (nI r1)]) (rest := []) (q0 := 0) (c_X2_reason xl D kA (fun i => os (i + 1)) f (V 0) (TV V) hR hW (by omega) c1 d1 r1 (by omega) (by omega) (by omega)) (cwV 2 hts gX4_why_X2_reason rfl rfl rfl (by decide +kernel) ⟨Nat.le_of_ble_eq_true rfl, Nat.le_of_ble_eq_true rfl⟩) (xSubL (wc := (rulW kA (fun i => os (i + 1)) f (nI (V 0)))) hP [13, 14, 15, 16, 17, 18, 19] rfl) rfl rfl rfl rfl hl.1 rfl (Nat.le_of_ble_eq_true rfl) dX4_why_39 ⟨Nat.le_of_ble_eq_true rfl, Nat.le_of_ble_eq_true rfl⟩ ?_
        exact xRetI hx hb hret (v := (rsnT (V 0) (TV V) c1 d1 r1)) (retC (S2 := (V, ln, P, kt, HH, HB, LL)) (by simp [opWhy, h_4, h_11, h_20, t_c1, t_d1, t_r1]) ⟨sl, hs, h, tf, tz, f, g, tl, Q, rfl, hr, hpd, hQ⟩) hP hD hS dX4_why_42 hlocks
      · skip
        refine lv_bipush (v := (-2)) hx hb dX4_why_23 (by decide) ?_
        exact xRetI hx hb hret (v := (-2)) (retC (S2 := (V, ln, P, kt, HH, HB, LL)) (by simp [opWhy, h_4, h_11, h_20]) ⟨sl, hs, h, tf, tz, f, g, tl, Q, rfl, hr, hpd, hQ⟩) hP hD hS dX4_why_25 hlocks
    · skip
      refine lv_iconst (v := (-1)) hx hb dX4_why_14 (by decide) ?_
      exact xRetI hx hb hret (v := (-1)) (retC (S2 := (V, ln, P, kt, HH, HB, LL)) (by simp [opWhy, h_4, h_11]) ⟨sl, hs, h, tf, tz, f, g, tl, Q, rfl, hr, hpd, hQ⟩) hP hD hS dX4_why_15 hlocks

set_option maxHeartbeats 8000000 in
set_option maxRecDepth 100000 in
theorem c_X4_leastRank (xl : Launch) (D : va_G) (kA : Nat → ClassId) (ox os ob ot : Nat → Nat) (sl hs : Nat → Option Nat) (h : Nat → Int32) (tf : Nat → Nat → Int32) (tz : Int32) (f g : Nat → Nat → Int32) (V : Nat → Nat) (ln kt : Nat) (tl : va_W) (P : Nat → Nat) (HH : Nat → Nat → Nat) (HB : Nat → Bool) (LL : Nat → Nat → Nat) (Q : Nat → Option Ent) (hI : InvS (V, ln, P, kt, HH, HB, LL)) (hr : relN V f g) (hpd : relP h ln P) (hQ : QR kA sl hs tl kt HH HB LL Q) (c d : Int32) (A : Nat → Prop) : Met xl yX4_leastRank wsX4_leastRank { frames := 4, cells := 0, slots := 0, locals := 90 } (va_Pc [.ref (ox 0), .int c, .int d] (xPw D kA A ((clsN kA ox os ob ot sl hs h tf tz f g (V 0) (V 1) (V 2) ln kt) ++ tl))) (xQi D A (fun r u => r = (opLeast (V, ln, P, kt, HH, HB, LL) c d).1 ∧ ClsR kA ox os ob ot (opLeast (V, ln, P, kt, HH, HB, LL) c d).2 u)) 0 0 A := by
  refine Met.ofW (cc := cX4_leastRank) (maxL := 3) (ret := (some .int)) (by decide) rfl ?_
  intro xp xe xs xm args xbe xme xc s₁ B hml hv
  obtain ⟨rfl, hP, hN, hD, hA⟩ := hv
  have hret := B.returns
  have C : CallFix xp xm xc cX4_leastRank 3 xs ([.ref (ox 0), .int c, .int d] : List Value).toArray wsX4_leastRank RX4 := ⟨B.exec, B.bytes, hml, findClass_of_methodNamed B.named, atoms_spec (ws := wsX4_leastRank) B.pre⟩
  have hlocks := B.notSynchronized
  obtain ⟨hx, hb, _, hown, hts⟩ := id C
  have hS : va_S A xs.heap xs.heap [] := va_S.rf
  have hl := lv_entry ([.ref (ox 0), .int c, .int d]) (n := 3) (Nat.le_of_ble_eq_true rfl)
  rw [lg_entry_eq]
  generalize (lg_sl ([.ref (ox 0), .int c, .int d]) ++ List.replicate (3 - (lg_sl ([.ref (ox 0), .int c, .int d])).length) Slot.unset).toArray = ls at hl ⊢
  have hl : lv_has ls 3 [(0, .ref (ox 0)), (1, .int c), (2, .int d)] := hl
  obtain ⟨⟨hV, hW, hM, hG⟩, hm, hwP, hk, hIH, hIL⟩ := hI
  have hR := hr.1
  refine lv_iload_n hx hb dX4_leastRank_0 rfl (lv_at hl 1 rfl) ?_
  refine xSro C hN (As := [.int c]) (rest := []) (c_X4_isCraft xl D kA c) (va_cwS 1 hts gX4_leastRank_X4_isCraft rfl rfl rfl (by decide +kernel) ⟨Nat.le_of_ble_eq_true rfl, Nat.le_of_ble_eq_true rfl⟩) (xSubL (wc := []) hP [] rfl) rfl hl.1 rfl (Nat.le_of_ble_eq_true rfl) dX4_leastRank_1 ⟨Nat.le_of_ble_eq_true rfl, Nat.le_of_ble_eq_true rfl⟩ ?_
  refine xIfEqB C (tgt := 14) dX4_leastRank_4 (by decide) (fun h_4 => ?_) (fun h_4 => ?_)
  · skip
    refine lv_iconst (v := (-1)) hx hb dX4_leastRank_14 (by decide) ?_
    exact xRetI hx hb hret (v := (-1)) (retC (S2 := (V, ln, P, kt, HH, HB, LL)) (by simp [opLeast, h_4]) ⟨sl, hs, h, tf, tz, f, g, tl, Q, rfl, hr, hpd, hQ⟩) hP hD hS dX4_leastRank_15 hlocks
  · skip
    refine lv_iload_n hx hb dX4_leastRank_7 rfl (lv_at hl 2 rfl) ?_
    refine xSro C hN (As := [.int d]) (rest := []) (c_X4_isDeed xl D kA d) (va_cwS 1 hts gX4_leastRank_X4_isDeed rfl rfl rfl (by decide +kernel) ⟨Nat.le_of_ble_eq_true rfl, Nat.le_of_ble_eq_true rfl⟩) (xSubL (wc := []) hP [] rfl) rfl hl.1 rfl (Nat.le_of_ble_eq_true rfl) dX4_leastRank_8 ⟨Nat.le_of_ble_eq_true rfl, Nat.le_of_ble_eq_true rfl⟩ ?_
    refine xIfNeB C (tgt := 16) dX4_leastRank_11 (by decide) (fun h_11 => ?_) (fun h_11 => ?_)
    · skip
      obtain ⟨c1, a_c1, b_c1, e_c1, t_c1⟩ := inR_ex h_4 (by decide) (by decide)
      rw [e_c1] at hl
      skip
      obtain ⟨d1, a_d1, b_d1, e_d1, t_d1⟩ := inR_ex h_11 (by decide) (by decide)
      rw [e_d1] at hl
      skip
      refine lv_aload_n hx hb dX4_leastRank_16 rfl (lv_at hl 0 rfl) ?_
      refine xGet C hN hP 0 (j := 0) rfl rfl iX4_leastRank_X4 (by decide) kX4_leastRank_12 rfl rfl dX4_leastRank_17 ?_
      refine xGet C hN hP 12 (j := 0) rfl rfl iX4_leastRank_X3 (by decide) kX4_leastRank_52 rfl rfl dX4_leastRank_20 ?_
      refine lv_iload_n hx hb dX4_leastRank_23 rfl (lv_at hl 1 rfl) ?_
      refine lv_iload_n hx hb dX4_leastRank_24 rfl (lv_at hl 2 rfl) ?_
      refine xSro C hN (As := [.int (nI c1), .int (nI d1)]) (rest := [.ref (os 1)]) (c_X4_pairsOf xl D kA c1 d1 (by omega) (by omega)) (va_cwS 2 hts gX4_leastRank_X4_pairsOf rfl rfl rfl (by decide +kernel) ⟨Nat.le_of_ble_eq_true rfl, Nat.le_of_ble_eq_true rfl⟩) (xSubL (wc := []) hP [] rfl) rfl hl.1 rfl (Nat.le_of_ble_eq_true rfl) dX4_leastRank_25 ⟨Nat.le_of_ble_eq_true rfl, Nat.le_of_ble_eq_true rfl⟩ ?_
      refine xVro C hN (As := [.int (mk (pfit c1 d1))]) (rest := []) (q0 := 0) (c_X2_leastRankFor xl D kA (fun i => os (i + 1)) f (V 0) (TV V) hR hW (by omega) c1 d1 (by omega) (by omega)) (cwV 1 hts gX4_leastRank_X2_leastRankFor rfl rfl rfl (by decide +kernel) ⟨Nat.le_of_ble_eq_true rfl, Nat.le_of_ble_eq_true rfl⟩) (xSubL (wc := (rulW kA (fun i => os (i + 1)) f (nI (V 0)))) hP [13, 14, 15, 16, 17, 18, 19] rfl) rfl rfl rfl rfl hl.1 rfl (Nat.le_of_ble_eq_true rfl) dX4_leastRank_28 ⟨Nat.le_of_ble_eq_true rfl, Nat.le_of_ble_eq_true rfl⟩ ?_
      exact xRetI hx hb hret (v := (if lstT (V 0) (TV V) c1 d1 = 10 then (-6) else nI (lstT (V 0) (TV V) c1 d1))) (retC (S2 := (V, ln, P, kt, HH, HB, LL)) (by simp [opLeast, h_4, h_11, t_c1, t_d1]) ⟨sl, hs, h, tf, tz, f, g, tl, Q, rfl, hr, hpd, hQ⟩) hP hD hS dX4_leastRank_31 hlocks
    · skip
      refine lv_iconst (v := (-1)) hx hb dX4_leastRank_14 (by decide) ?_
      exact xRetI hx hb hret (v := (-1)) (retC (S2 := (V, ln, P, kt, HH, HB, LL)) (by simp [opLeast, h_4, h_11]) ⟨sl, hs, h, tf, tz, f, g, tl, Q, rfl, hr, hpd, hQ⟩) hP hD hS dX4_leastRank_15 hlocks

set_option maxHeartbeats 8000000 in
set_option maxRecDepth 100000 in
theorem c_X4_count (xl : Launch) (D : va_G) (kA : Nat → ClassId) (ox os ob ot : Nat → Nat) (sl hs : Nat → Option Nat) (h : Nat → Int32) (tf : Nat → Nat → Int32) (tz : Int32) (f g : Nat → Nat → Int32) (V : Nat → Nat) (ln kt : Nat) (tl : va_W) (P : Nat → Nat) (HH : Nat → Nat → Nat) (HB : Nat → Bool) (LL : Nat → Nat → Nat) (Q : Nat → Option Ent) (hI : InvS (V, ln, P, kt, HH, HB, LL)) (hr : relN V f g) (hpd : relP h ln P) (hQ : QR kA sl hs tl kt HH HB LL Q) (w : Int32) (A : Nat → Prop) : Met xl yX4_count wsX4_count { frames := 7, cells := 0, slots := 0, locals := 157 } (va_Pc [.ref (ox 0), .int w] (xPw D kA A ((clsN kA ox os ob ot sl hs h tf tz f g (V 0) (V 1) (V 2) ln kt) ++ tl))) (xQi D A (fun r u => r = (opCount (V, ln, P, kt, HH, HB, LL) w).1 ∧ ClsR kA ox os ob ot (opCount (V, ln, P, kt, HH, HB, LL) w).2 u)) 0 0 A := by
  refine Met.ofW (cc := cX4_count) (maxL := 2) (ret := (some .int)) (by decide) rfl ?_
  intro xp xe xs xm args xbe xme xc s₁ B hml hv
  obtain ⟨rfl, hP, hN, hD, hA⟩ := hv
  have hret := B.returns
  have C : CallFix xp xm xc cX4_count 2 xs ([.ref (ox 0), .int w] : List Value).toArray wsX4_count RX4 := ⟨B.exec, B.bytes, hml, findClass_of_methodNamed B.named, atoms_spec (ws := wsX4_count) B.pre⟩
  have hlocks := B.notSynchronized
  obtain ⟨hx, hb, _, hown, hts⟩ := id C
  have hS : va_S A xs.heap xs.heap [] := va_S.rf
  have hl := lv_entry ([.ref (ox 0), .int w]) (n := 2) (Nat.le_of_ble_eq_true rfl)
  rw [lg_entry_eq]
  generalize (lg_sl ([.ref (ox 0), .int w]) ++ List.replicate (2 - (lg_sl ([.ref (ox 0), .int w])).length) Slot.unset).toArray = ls at hl ⊢
  have hl : lv_has ls 2 [(0, .ref (ox 0)), (1, .int w)] := hl
  obtain ⟨⟨hV, hW, hM, hG⟩, hm, hwP, hk, hIH, hIL⟩ := hI
  have hR := hr.1
  refine lv_iload_n hx hb dX4_count_0 rfl (lv_at hl 1 rfl) ?_
  rcases xTab (x := w) 0 17 (by decide) with h_1 | ⟨j_1, hj_1, e_1⟩
  · refine lv_tableOut (tgt := 265) hx hb dX4_count_1 (by omega) (by decide) ?_
    have i_w : inR w (nI 0) (nI 16) = false := inR_o h_1
    skip
    refine lv_bipush (v := (-2)) hx hb dX4_count_265 (by decide) ?_
    exact xRetI hx hb hret (v := (-2)) (retC (S2 := (V, ln, P, kt, HH, HB, LL)) (by simp [opCount, i_w]) ⟨sl, hs, h, tf, tz, f, g, tl, Q, rfl, hr, hpd, hQ⟩) hP hD hS dX4_count_267 hlocks
  · rcases (show j_1 = 0 ∨ j_1 = 1 ∨ j_1 = 2 ∨ j_1 = 3 ∨ j_1 = 4 ∨ j_1 = 5 ∨ j_1 = 6 ∨ j_1 = 7 ∨ j_1 = 8 ∨ j_1 = 9 ∨ j_1 = 10 ∨ j_1 = 11 ∨ j_1 = 12 ∨ j_1 = 13 ∨ j_1 = 14 ∨ j_1 = 15 ∨ j_1 = 16 by omega) with rfl | rfl | rfl | rfl | rfl | rfl | rfl | rfl | rfl | rfl | rfl | rfl | rfl | rfl | rfl | rfl | rfl
    · refine xTabIn C (j := 0) (tgt := 84) e_1 dX4_count_1 (by decide) (by decide) rfl (by decide) ?_
      have t_w : toN w = 0 := by rw [e_1]; rfl
      have i_w : inR w (nI 0) (nI 16) = true := by rw [e_1]; decide
      skip
      refine lv_aload_n hx hb dX4_count_84 rfl (lv_at hl 0 rfl) ?_
      refine xGet C hN hP 0 (j := 0) rfl rfl iX4_count_X4 (by decide) kX4_count_12 rfl rfl dX4_count_85 ?_
      refine xGet C hN hP 12 (j := 0) rfl rfl iX4_count_X3 (by decide) kX4_count_52 rfl rfl dX4_count_88 ?_
      refine xGet C hN hP 13 (j := 6) rfl rfl iX4_count_X2 (by decide) kX4_count_55 rfl rfl dX4_count_91 ?_
      exact xRetI hx hb hret (v := nI (V 0)) (retC (S2 := (V, ln, P, kt, HH, HB, LL)) (by simp [opCount, cnV, t_w, i_w]) ⟨sl, hs, h, tf, tz, f, g, tl, Q, rfl, hr, hpd, hQ⟩) hP hD hS dX4_count_94 hlocks
    · refine xTabIn C (j := 1) (tgt := 95) e_1 dX4_count_1 (by decide) (by decide) rfl (by decide) ?_
      have t_w : toN w = 1 := by rw [e_1]; rfl
      have i_w : inR w (nI 0) (nI 16) = true := by rw [e_1]; decide
      skip
      refine lv_aload_n hx hb dX4_count_95 rfl (lv_at hl 0 rfl) ?_
      refine xGet C hN hP 0 (j := 0) rfl rfl iX4_count_X4 (by decide) kX4_count_12 rfl rfl dX4_count_96 ?_
      refine xGet C hN hP 12 (j := 0) rfl rfl iX4_count_X3 (by decide) kX4_count_52 rfl rfl dX4_count_99 ?_
      refine lv_iconst (v := nI 0) hx hb dX4_count_102 (by decide) ?_
      refine xVro C hN (As := [.int (nI 0)]) (rest := []) (q0 := 0) (c_X2_sizeOfKind xl D kA (fun i => os (i + 1)) f (V 0) (TV V) hR hW (by omega) 0 (by decide)) (cwV 1 hts gX4_count_X2_sizeOfKind rfl rfl rfl (by decide +kernel) ⟨Nat.le_of_ble_eq_true rfl, Nat.le_of_ble_eq_true rfl⟩) (xSubL (wc := (rulW kA (fun i => os (i + 1)) f (nI (V 0)))) hP [13, 14, 15, 16, 17, 18, 19] rfl) rfl rfl rfl rfl hl.1 rfl (Nat.le_of_ble_eq_true rfl) dX4_count_103 ⟨Nat.le_of_ble_eq_true rfl, Nat.le_of_ble_eq_true rfl⟩ ?_
      exact xRetI hx hb hret (v := nI (cntN (V 0) (fun j => TV V j 1 == 0))) (retC (S2 := (V, ln, P, kt, HH, HB, LL)) (by simp [opCount, cnV, t_w, i_w]) ⟨sl, hs, h, tf, tz, f, g, tl, Q, rfl, hr, hpd, hQ⟩) hP hD hS dX4_count_106 hlocks
    · refine xTabIn C (j := 2) (tgt := 107) e_1 dX4_count_1 (by decide) (by decide) rfl (by decide) ?_
      have t_w : toN w = 2 := by rw [e_1]; rfl
      have i_w : inR w (nI 0) (nI 16) = true := by rw [e_1]; decide
      skip
      refine lv_aload_n hx hb dX4_count_107 rfl (lv_at hl 0 rfl) ?_
      refine xGet C hN hP 0 (j := 0) rfl rfl iX4_count_X4 (by decide) kX4_count_12 rfl rfl dX4_count_108 ?_
      refine xGet C hN hP 12 (j := 0) rfl rfl iX4_count_X3 (by decide) kX4_count_52 rfl rfl dX4_count_111 ?_
      refine lv_iconst (v := nI 1) hx hb dX4_count_114 (by decide) ?_
      refine xVro C hN (As := [.int (nI 1)]) (rest := []) (q0 := 0) (c_X2_sizeOfKind xl D kA (fun i => os (i + 1)) f (V 0) (TV V) hR hW (by omega) 1 (by decide)) (cwV 1 hts gX4_count_X2_sizeOfKind rfl rfl rfl (by decide +kernel) ⟨Nat.le_of_ble_eq_true rfl, Nat.le_of_ble_eq_true rfl⟩) (xSubL (wc := (rulW kA (fun i => os (i + 1)) f (nI (V 0)))) hP [13, 14, 15, 16, 17, 18, 19] rfl) rfl rfl rfl rfl hl.1 rfl (Nat.le_of_ble_eq_true rfl) dX4_count_115 ⟨Nat.le_of_ble_eq_true rfl, Nat.le_of_ble_eq_true rfl⟩ ?_
      exact xRetI hx hb hret (v := nI (cntN (V 0) (fun j => TV V j 1 == 1))) (retC (S2 := (V, ln, P, kt, HH, HB, LL)) (by simp [opCount, cnV, t_w, i_w]) ⟨sl, hs, h, tf, tz, f, g, tl, Q, rfl, hr, hpd, hQ⟩) hP hD hS dX4_count_118 hlocks
    · refine xTabIn C (j := 3) (tgt := 119) e_1 dX4_count_1 (by decide) (by decide) rfl (by decide) ?_
      have t_w : toN w = 3 := by rw [e_1]; rfl
      have i_w : inR w (nI 0) (nI 16) = true := by rw [e_1]; decide
      skip
      refine lv_aload_n hx hb dX4_count_119 rfl (lv_at hl 0 rfl) ?_
      refine xGet C hN hP 0 (j := 0) rfl rfl iX4_count_X4 (by decide) kX4_count_12 rfl rfl dX4_count_120 ?_
      refine xGet C hN hP 12 (j := 0) rfl rfl iX4_count_X3 (by decide) kX4_count_52 rfl rfl dX4_count_123 ?_
      refine lv_iconst (v := nI 2) hx hb dX4_count_126 (by decide) ?_
      refine xVro C hN (As := [.int (nI 2)]) (rest := []) (q0 := 0) (c_X2_sizeOfKind xl D kA (fun i => os (i + 1)) f (V 0) (TV V) hR hW (by omega) 2 (by decide)) (cwV 1 hts gX4_count_X2_sizeOfKind rfl rfl rfl (by decide +kernel) ⟨Nat.le_of_ble_eq_true rfl, Nat.le_of_ble_eq_true rfl⟩) (xSubL (wc := (rulW kA (fun i => os (i + 1)) f (nI (V 0)))) hP [13, 14, 15, 16, 17, 18, 19] rfl) rfl rfl rfl rfl hl.1 rfl (Nat.le_of_ble_eq_true rfl) dX4_count_127 ⟨Nat.le_of_ble_eq_true rfl, Nat.le_of_ble_eq_true rfl⟩ ?_
      exact xRetI hx hb hret (v := nI (cntN (V 0) (fun j => TV V j 1 == 2))) (retC (S2 := (V, ln, P, kt, HH, HB, LL)) (by simp [opCount, cnV, t_w, i_w]) ⟨sl, hs, h, tf, tz, f, g, tl, Q, rfl, hr, hpd, hQ⟩) hP hD hS dX4_count_130 hlocks
    · refine xTabIn C (j := 4) (tgt := 131) e_1 dX4_count_1 (by decide) (by decide) rfl (by decide) ?_
      have t_w : toN w = 4 := by rw [e_1]; rfl
      have i_w : inR w (nI 0) (nI 16) = true := by rw [e_1]; decide
      skip
      refine lv_aload_n hx hb dX4_count_131 rfl (lv_at hl 0 rfl) ?_
      refine xWWi hS (va_runV (As := []) (rest := []) C (c_X4_idleRules xl D kA ox os ob ot sl hs h tf tz f g V ln kt tl hR hW hV A) (cwV 0 hts gX4_count_X4_idleRules rfl rfl rfl (by decide +kernel) ⟨Nat.le_of_ble_eq_true rfl, Nat.le_of_ble_eq_true rfl⟩) (xPreVw (q0 := 0) hN hP hD (xAll hS hA) rfl rfl rfl) rfl rfl hl.1 rfl (lv_room (Nat.le_of_ble_eq_true rfl)) dX4_count_132 ⟨Nat.le_of_ble_eq_true rfl, Nat.le_of_ble_eq_true rfl⟩) (fun r_132 u_132 H locs hq_132 hP hD hS => ?_)
      obtain ⟨rfl, tf_132, tz_132, rfl⟩ := hq_132
      have hP : va_P D vwCl ((clsN kA ox os ob ot sl hs h tf_132 tz_132 f g (V 0) (V 1) (V 2) ln kt) ++ tl) H := hP
      have hD : va_D A ((clsN kA ox os ob ot sl hs h tf_132 tz_132 f g (V 0) (V 1) (V 2) ln kt) ++ tl) := hD
      exact xRetI hx hb hret (v := nI (cntN (V 0) (idB V))) (retC (S2 := (V, ln, P, kt, HH, HB, LL)) (by simp [opCount, cnV, t_w, i_w]) ⟨sl, hs, h, tf_132, tz_132, f, g, tl, Q, rfl, hr, hpd, hQ⟩) hP hD hS dX4_count_135 hlocks
    · refine xTabIn C (j := 5) (tgt := 136) e_1 dX4_count_1 (by decide) (by decide) rfl (by decide) ?_
      have t_w : toN w = 5 := by rw [e_1]; rfl
      have i_w : inR w (nI 0) (nI 16) = true := by rw [e_1]; decide
      skip
      refine lv_aload_n hx hb dX4_count_136 rfl (lv_at hl 0 rfl) ?_
      refine xGet C hN hP 0 (j := 0) rfl rfl iX4_count_X4 (by decide) kX4_count_12 rfl rfl dX4_count_137 ?_
      refine xGet C hN hP 12 (j := 0) rfl rfl iX4_count_X3 (by decide) kX4_count_52 rfl rfl dX4_count_140 ?_
      refine xVro C hN (As := []) (rest := []) (q0 := 0) (c_X2_oddPairs xl D kA (fun i => os (i + 1)) f (V 0) (TV V) hR hW (by omega)) (cwV 0 hts gX4_count_X2_oddPairs rfl rfl rfl (by decide +kernel) ⟨Nat.le_of_ble_eq_true rfl, Nat.le_of_ble_eq_true rfl⟩) (xSubL (wc := (rulW kA (fun i => os (i + 1)) f (nI (V 0)))) hP [13, 14, 15, 16, 17, 18, 19] rfl) rfl rfl rfl rfl hl.1 rfl (Nat.le_of_ble_eq_true rfl) dX4_count_143 ⟨Nat.le_of_ble_eq_true rfl, Nat.le_of_ble_eq_true rfl⟩ ?_
      exact xRetI hx hb hret (v := nI (oprT (V 0) (TV V))) (retC (S2 := (V, ln, P, kt, HH, HB, LL)) (by simp [opCount, cnV, t_w, i_w]) ⟨sl, hs, h, tf, tz, f, g, tl, Q, rfl, hr, hpd, hQ⟩) hP hD hS dX4_count_146 hlocks
    · refine xTabIn C (j := 6) (tgt := 147) e_1 dX4_count_1 (by decide) (by decide) rfl (by decide) ?_
      have t_w : toN w = 6 := by rw [e_1]; rfl
      have i_w : inR w (nI 0) (nI 16) = true := by rw [e_1]; decide
      skip
      refine lv_aload_n hx hb dX4_count_147 rfl (lv_at hl 0 rfl) ?_
      refine xGet C hN hP 0 (j := 0) rfl rfl iX4_count_X4 (by decide) kX4_count_12 rfl rfl dX4_count_148 ?_
      refine xGet C hN hP 12 (j := 0) rfl rfl iX4_count_X3 (by decide) kX4_count_52 rfl rfl dX4_count_151 ?_
      refine xVro C hN (As := []) (rest := []) (q0 := 0) (c_X2_triples xl D kA (fun i => os (i + 1)) f (V 0) (TV V) hR hW (by omega)) (cwV 0 hts gX4_count_X2_triples rfl rfl rfl (by decide +kernel) ⟨Nat.le_of_ble_eq_true rfl, Nat.le_of_ble_eq_true rfl⟩) (xSubL (wc := (rulW kA (fun i => os (i + 1)) f (nI (V 0)))) hP [13, 14, 15, 16, 17, 18, 19] rfl) rfl rfl rfl rfl hl.1 rfl (Nat.le_of_ble_eq_true rfl) dX4_count_154 ⟨Nat.le_of_ble_eq_true rfl, Nat.le_of_ble_eq_true rfl⟩ ?_
      exact xRetI hx hb hret (v := nI (trpT (V 0) (TV V))) (retC (S2 := (V, ln, P, kt, HH, HB, LL)) (by simp [opCount, cnV, t_w, i_w]) ⟨sl, hs, h, tf, tz, f, g, tl, Q, rfl, hr, hpd, hQ⟩) hP hD hS dX4_count_157 hlocks
    · refine xTabIn C (j := 7) (tgt := 158) e_1 dX4_count_1 (by decide) (by decide) rfl (by decide) ?_
      have t_w : toN w = 7 := by rw [e_1]; rfl
      have i_w : inR w (nI 0) (nI 16) = true := by rw [e_1]; decide
      skip
      refine lv_aload_n hx hb dX4_count_158 rfl (lv_at hl 0 rfl) ?_
      refine xGet C hN hP 0 (j := 0) rfl rfl iX4_count_X4 (by decide) kX4_count_12 rfl rfl dX4_count_159 ?_
      refine xGet C hN hP 12 (j := 1) rfl rfl iX4_count_X3 (by decide) kX4_count_105 rfl rfl dX4_count_162 ?_
      refine xGet C hN hP 20 (j := 5) rfl rfl iX4_count_X0 (by decide) kX4_count_109 rfl rfl dX4_count_165 ?_
      exact xRetI hx hb hret (v := nI (V 1)) (retC (S2 := (V, ln, P, kt, HH, HB, LL)) (by simp [opCount, cnV, t_w, i_w]) ⟨sl, hs, h, tf, tz, f, g, tl, Q, rfl, hr, hpd, hQ⟩) hP hD hS dX4_count_168 hlocks
    · refine xTabIn C (j := 8) (tgt := 169) e_1 dX4_count_1 (by decide) (by decide) rfl (by decide) ?_
      have t_w : toN w = 8 := by rw [e_1]; rfl
      have i_w : inR w (nI 0) (nI 16) = true := by rw [e_1]; decide
      skip
      refine lv_aload_n hx hb dX4_count_169 rfl (lv_at hl 0 rfl) ?_
      refine xGet C hN hP 0 (j := 0) rfl rfl iX4_count_X4 (by decide) kX4_count_12 rfl rfl dX4_count_170 ?_
      refine xGet C hN hP 12 (j := 1) rfl rfl iX4_count_X3 (by decide) kX4_count_105 rfl rfl dX4_count_173 ?_
      refine xGet C hN hP 20 (j := 6) rfl rfl iX4_count_X0 (by decide) kX4_count_183 rfl rfl dX4_count_176 ?_
      exact xRetI hx hb hret (v := nI (V 2)) (retC (S2 := (V, ln, P, kt, HH, HB, LL)) (by simp [opCount, cnV, t_w, i_w]) ⟨sl, hs, h, tf, tz, f, g, tl, Q, rfl, hr, hpd, hQ⟩) hP hD hS dX4_count_179 hlocks
    · refine xTabIn C (j := 9) (tgt := 180) e_1 dX4_count_1 (by decide) (by decide) rfl (by decide) ?_
      have t_w : toN w = 9 := by rw [e_1]; rfl
      have i_w : inR w (nI 0) (nI 16) = true := by rw [e_1]; decide
      skip
      refine lv_aload_n hx hb dX4_count_180 rfl (lv_at hl 0 rfl) ?_
      refine xGet C hN hP 0 (j := 0) rfl rfl iX4_count_X4 (by decide) kX4_count_12 rfl rfl dX4_count_181 ?_
      refine xGet C hN hP 12 (j := 1) rfl rfl iX4_count_X3 (by decide) kX4_count_105 rfl rfl dX4_count_184 ?_
      refine lv_iconst (v := nI 0) hx hb dX4_count_187 (by decide) ?_
      refine xVro C hN (As := [.int (nI 0)]) (rest := []) (q0 := 0) (c_X0_refusalsOf xl D kA (fun i => os (i + 8)) g (nI (V 2)) (V 1) 0 (by decide)) (cwV 1 hts gX4_count_X0_refusalsOf rfl rfl rfl (by decide +kernel) ⟨Nat.le_of_ble_eq_true rfl, Nat.le_of_ble_eq_true rfl⟩) (xSubL (wc := (gldW kA (fun i => os (i + 8)) g (nI (V 1)) (nI (V 2)))) hP [20, 21, 22, 23, 24, 25] rfl) rfl rfl rfl rfl hl.1 rfl (Nat.le_of_ble_eq_true rfl) dX4_count_188 ⟨Nat.le_of_ble_eq_true rfl, Nat.le_of_ble_eq_true rfl⟩ ?_
      refine xTop (y := nI (V (3 + 0))) (hr.2.2 0 (by decide)) ?_
      exact xRetI hx hb hret (v := nI (V (3 + 0))) (retC (S2 := (V, ln, P, kt, HH, HB, LL)) (by simp [opCount, cnV, t_w, i_w]) ⟨sl, hs, h, tf, tz, f, g, tl, Q, rfl, hr, hpd, hQ⟩) hP hD hS dX4_count_191 hlocks
    · refine xTabIn C (j := 10) (tgt := 192) e_1 dX4_count_1 (by decide) (by decide) rfl (by decide) ?_
      have t_w : toN w = 10 := by rw [e_1]; rfl
      have i_w : inR w (nI 0) (nI 16) = true := by rw [e_1]; decide
      skip
      refine lv_aload_n hx hb dX4_count_192 rfl (lv_at hl 0 rfl) ?_
      refine xGet C hN hP 0 (j := 0) rfl rfl iX4_count_X4 (by decide) kX4_count_12 rfl rfl dX4_count_193 ?_
      refine xGet C hN hP 12 (j := 1) rfl rfl iX4_count_X3 (by decide) kX4_count_105 rfl rfl dX4_count_196 ?_
      refine lv_iconst (v := nI 1) hx hb dX4_count_199 (by decide) ?_
      refine xVro C hN (As := [.int (nI 1)]) (rest := []) (q0 := 0) (c_X0_refusalsOf xl D kA (fun i => os (i + 8)) g (nI (V 2)) (V 1) 1 (by decide)) (cwV 1 hts gX4_count_X0_refusalsOf rfl rfl rfl (by decide +kernel) ⟨Nat.le_of_ble_eq_true rfl, Nat.le_of_ble_eq_true rfl⟩) (xSubL (wc := (gldW kA (fun i => os (i + 8)) g (nI (V 1)) (nI (V 2)))) hP [20, 21, 22, 23, 24, 25] rfl) rfl rfl rfl rfl hl.1 rfl (Nat.le_of_ble_eq_true rfl) dX4_count_200 ⟨Nat.le_of_ble_eq_true rfl, Nat.le_of_ble_eq_true rfl⟩ ?_
      refine xTop (y := nI (V (3 + 1))) (hr.2.2 1 (by decide)) ?_
      exact xRetI hx hb hret (v := nI (V (3 + 1))) (retC (S2 := (V, ln, P, kt, HH, HB, LL)) (by simp [opCount, cnV, t_w, i_w]) ⟨sl, hs, h, tf, tz, f, g, tl, Q, rfl, hr, hpd, hQ⟩) hP hD hS dX4_count_203 hlocks
    · refine xTabIn C (j := 11) (tgt := 204) e_1 dX4_count_1 (by decide) (by decide) rfl (by decide) ?_
      have t_w : toN w = 11 := by rw [e_1]; rfl
      have i_w : inR w (nI 0) (nI 16) = true := by rw [e_1]; decide
      skip
      refine lv_aload_n hx hb dX4_count_204 rfl (lv_at hl 0 rfl) ?_
      refine xGet C hN hP 0 (j := 0) rfl rfl iX4_count_X4 (by decide) kX4_count_12 rfl rfl dX4_count_205 ?_
      refine xGet C hN hP 12 (j := 1) rfl rfl iX4_count_X3 (by decide) kX4_count_105 rfl rfl dX4_count_208 ?_
      refine lv_iconst (v := nI 2) hx hb dX4_count_211 (by decide) ?_
      refine xVro C hN (As := [.int (nI 2)]) (rest := []) (q0 := 0) (c_X0_refusalsOf xl D kA (fun i => os (i + 8)) g (nI (V 2)) (V 1) 2 (by decide)) (cwV 1 hts gX4_count_X0_refusalsOf rfl rfl rfl (by decide +kernel) ⟨Nat.le_of_ble_eq_true rfl, Nat.le_of_ble_eq_true rfl⟩) (xSubL (wc := (gldW kA (fun i => os (i + 8)) g (nI (V 1)) (nI (V 2)))) hP [20, 21, 22, 23, 24, 25] rfl) rfl rfl rfl rfl hl.1 rfl (Nat.le_of_ble_eq_true rfl) dX4_count_212 ⟨Nat.le_of_ble_eq_true rfl, Nat.le_of_ble_eq_true rfl⟩ ?_
      refine xTop (y := nI (V (3 + 2))) (hr.2.2 2 (by decide)) ?_
      exact xRetI hx hb hret (v := nI (V (3 + 2))) (retC (S2 := (V, ln, P, kt, HH, HB, LL)) (by simp [opCount, cnV, t_w, i_w]) ⟨sl, hs, h, tf, tz, f, g, tl, Q, rfl, hr, hpd, hQ⟩) hP hD hS dX4_count_215 hlocks
    · refine xTabIn C (j := 12) (tgt := 216) e_1 dX4_count_1 (by decide) (by decide) rfl (by decide) ?_
      have t_w : toN w = 12 := by rw [e_1]; rfl
      have i_w : inR w (nI 0) (nI 16) = true := by rw [e_1]; decide
      skip
      refine lv_aload_n hx hb dX4_count_216 rfl (lv_at hl 0 rfl) ?_
      refine xGet C hN hP 0 (j := 0) rfl rfl iX4_count_X4 (by decide) kX4_count_12 rfl rfl dX4_count_217 ?_
      refine xGet C hN hP 12 (j := 1) rfl rfl iX4_count_X3 (by decide) kX4_count_105 rfl rfl dX4_count_220 ?_
      refine lv_iconst (v := nI 3) hx hb dX4_count_223 (by decide) ?_
      refine xVro C hN (As := [.int (nI 3)]) (rest := []) (q0 := 0) (c_X0_refusalsOf xl D kA (fun i => os (i + 8)) g (nI (V 2)) (V 1) 3 (by decide)) (cwV 1 hts gX4_count_X0_refusalsOf rfl rfl rfl (by decide +kernel) ⟨Nat.le_of_ble_eq_true rfl, Nat.le_of_ble_eq_true rfl⟩) (xSubL (wc := (gldW kA (fun i => os (i + 8)) g (nI (V 1)) (nI (V 2)))) hP [20, 21, 22, 23, 24, 25] rfl) rfl rfl rfl rfl hl.1 rfl (Nat.le_of_ble_eq_true rfl) dX4_count_224 ⟨Nat.le_of_ble_eq_true rfl, Nat.le_of_ble_eq_true rfl⟩ ?_
      refine xTop (y := nI (V (3 + 3))) (hr.2.2 3 (by decide)) ?_
      exact xRetI hx hb hret (v := nI (V (3 + 3))) (retC (S2 := (V, ln, P, kt, HH, HB, LL)) (by simp [opCount, cnV, t_w, i_w]) ⟨sl, hs, h, tf, tz, f, g, tl, Q, rfl, hr, hpd, hQ⟩) hP hD hS dX4_count_227 hlocks
    · refine xTabIn C (j := 13) (tgt := 228) e_1 dX4_count_1 (by decide) (by decide) rfl (by decide) ?_
      have t_w : toN w = 13 := by rw [e_1]; rfl
      have i_w : inR w (nI 0) (nI 16) = true := by rw [e_1]; decide
      skip
      refine lv_aload_n hx hb dX4_count_228 rfl (lv_at hl 0 rfl) ?_
      refine xGet C hN hP 0 (j := 0) rfl rfl iX4_count_X4 (by decide) kX4_count_12 rfl rfl dX4_count_229 ?_
      refine xGet C hN hP 12 (j := 1) rfl rfl iX4_count_X3 (by decide) kX4_count_105 rfl rfl dX4_count_232 ?_
      refine lv_iconst (v := nI 4) hx hb dX4_count_235 (by decide) ?_
      refine xVro C hN (As := [.int (nI 4)]) (rest := []) (q0 := 0) (c_X0_refusalsOf xl D kA (fun i => os (i + 8)) g (nI (V 2)) (V 1) 4 (by decide)) (cwV 1 hts gX4_count_X0_refusalsOf rfl rfl rfl (by decide +kernel) ⟨Nat.le_of_ble_eq_true rfl, Nat.le_of_ble_eq_true rfl⟩) (xSubL (wc := (gldW kA (fun i => os (i + 8)) g (nI (V 1)) (nI (V 2)))) hP [20, 21, 22, 23, 24, 25] rfl) rfl rfl rfl rfl hl.1 rfl (Nat.le_of_ble_eq_true rfl) dX4_count_236 ⟨Nat.le_of_ble_eq_true rfl, Nat.le_of_ble_eq_true rfl⟩ ?_
      refine xTop (y := nI (V (3 + 4))) (hr.2.2 4 (by decide)) ?_
      exact xRetI hx hb hret (v := nI (V (3 + 4))) (retC (S2 := (V, ln, P, kt, HH, HB, LL)) (by simp [opCount, cnV, t_w, i_w]) ⟨sl, hs, h, tf, tz, f, g, tl, Q, rfl, hr, hpd, hQ⟩) hP hD hS dX4_count_239 hlocks
    · refine xTabIn C (j := 14) (tgt := 240) e_1 dX4_count_1 (by decide) (by decide) rfl (by decide) ?_
      have t_w : toN w = 14 := by rw [e_1]; rfl
      have i_w : inR w (nI 0) (nI 16) = true := by rw [e_1]; decide
      skip
      refine lv_aload_n hx hb dX4_count_240 rfl (lv_at hl 0 rfl) ?_
      refine xGet C hN hP 0 (j := 0) rfl rfl iX4_count_X4 (by decide) kX4_count_12 rfl rfl dX4_count_241 ?_
      refine xGet C hN hP 12 (j := 1) rfl rfl iX4_count_X3 (by decide) kX4_count_105 rfl rfl dX4_count_244 ?_
      refine lv_iconst (v := nI 5) hx hb dX4_count_247 (by decide) ?_
      refine xVro C hN (As := [.int (nI 5)]) (rest := []) (q0 := 0) (c_X0_refusalsOf xl D kA (fun i => os (i + 8)) g (nI (V 2)) (V 1) 5 (by decide)) (cwV 1 hts gX4_count_X0_refusalsOf rfl rfl rfl (by decide +kernel) ⟨Nat.le_of_ble_eq_true rfl, Nat.le_of_ble_eq_true rfl⟩) (xSubL (wc := (gldW kA (fun i => os (i + 8)) g (nI (V 1)) (nI (V 2)))) hP [20, 21, 22, 23, 24, 25] rfl) rfl rfl rfl rfl hl.1 rfl (Nat.le_of_ble_eq_true rfl) dX4_count_248 ⟨Nat.le_of_ble_eq_true rfl, Nat.le_of_ble_eq_true rfl⟩ ?_
      refine xTop (y := nI (V (3 + 5))) (hr.2.2 5 (by decide)) ?_
      exact xRetI hx hb hret (v := nI (V (3 + 5))) (retC (S2 := (V, ln, P, kt, HH, HB, LL)) (by simp [opCount, cnV, t_w, i_w]) ⟨sl, hs, h, tf, tz, f, g, tl, Q, rfl, hr, hpd, hQ⟩) hP hD hS dX4_count_251 hlocks
    · refine xTabIn C (j := 15) (tgt := 252) e_1 dX4_count_1 (by decide) (by decide) rfl (by decide) ?_
      have t_w : toN w = 15 := by rw [e_1]; rfl
      have i_w : inR w (nI 0) (nI 16) = true := by rw [e_1]; decide
      skip
      refine lv_aload_n hx hb dX4_count_252 rfl (lv_at hl 0 rfl) ?_
      refine xGet C hN hP 0 (j := 1) rfl rfl iX4_count_X4 (by decide) kX4_count_19 rfl rfl dX4_count_253 ?_
      refine xGet C hN hP 3 (j := 1) rfl rfl iX4_count_X1 (by decide) kX4_count_189 rfl rfl dX4_count_256 ?_
      exact xRetI hx hb hret (v := nI ln) (retC (S2 := (V, ln, P, kt, HH, HB, LL)) (by simp [opCount, cnV, t_w, i_w]) ⟨sl, hs, h, tf, tz, f, g, tl, Q, rfl, hr, hpd, hQ⟩) hP hD hS dX4_count_259 hlocks
    · refine xTabIn C (j := 16) (tgt := 260) e_1 dX4_count_1 (by decide) (by decide) rfl (by decide) ?_
      have t_w : toN w = 16 := by rw [e_1]; rfl
      have i_w : inR w (nI 0) (nI 16) = true := by rw [e_1]; decide
      skip
      refine lv_aload_n hx hb dX4_count_260 rfl (lv_at hl 0 rfl) ?_
      refine xGet C hN hP 0 (j := 4) rfl rfl iX4_count_X4 (by decide) kX4_count_30 rfl rfl dX4_count_261 ?_
      exact xRetI hx hb hret (v := nI kt) (retC (S2 := (V, ln, P, kt, HH, HB, LL)) (by simp [opCount, cnV, t_w, i_w]) ⟨sl, hs, h, tf, tz, f, g, tl, Q, rfl, hr, hpd, hQ⟩) hP hD hS dX4_count_264 hlocks

set_option maxHeartbeats 8000000 in
set_option maxRecDepth 100000 in
theorem c_X4_ifStruck (xl : Launch) (D : va_G) (kA : Nat → ClassId) (ox os ob ot : Nat → Nat) (sl hs : Nat → Option Nat) (h : Nat → Int32) (tf : Nat → Nat → Int32) (tz : Int32) (f g : Nat → Nat → Int32) (V : Nat → Nat) (ln kt : Nat) (tl : va_W) (P : Nat → Nat) (HH : Nat → Nat → Nat) (HB : Nat → Bool) (LL : Nat → Nat → Nat) (Q : Nat → Option Ent) (hI : InvS (V, ln, P, kt, HH, HB, LL)) (hr : relN V f g) (hpd : relP h ln P) (hQ : QR kA sl hs tl kt HH HB LL Q) (x : Int32) (A : Nat → Prop) : Met xl yX4_ifStruck wsX4_ifStruck { frames := 5, cells := 0, slots := 0, locals := 112 } (va_Pc [.ref (ox 0), .int x] (xPw D kA A ((clsN kA ox os ob ot sl hs h tf tz f g (V 0) (V 1) (V 2) ln kt) ++ tl))) (xQi D A (fun r u => r = (opIf (V, ln, P, kt, HH, HB, LL) x).1 ∧ ClsR kA ox os ob ot (opIf (V, ln, P, kt, HH, HB, LL) x).2 u)) 0 0 A := by
  refine Met.ofW (cc := cX4_ifStruck) (maxL := 2) (ret := (some .int)) (by decide) rfl ?_
  intro xp xe xs xm args xbe xme xc s₁ B hml hv
  obtain ⟨rfl, hP, hN, hD, hA⟩ := hv
  have hret := B.returns
  have C : CallFix xp xm xc cX4_ifStruck 2 xs ([.ref (ox 0), .int x] : List Value).toArray wsX4_ifStruck RX4 := ⟨B.exec, B.bytes, hml, findClass_of_methodNamed B.named, atoms_spec (ws := wsX4_ifStruck) B.pre⟩
  have hlocks := B.notSynchronized
  obtain ⟨hx, hb, _, hown, hts⟩ := id C
  have hS : va_S A xs.heap xs.heap [] := va_S.rf
  have hl := lv_entry ([.ref (ox 0), .int x]) (n := 2) (Nat.le_of_ble_eq_true rfl)
  rw [lg_entry_eq]
  generalize (lg_sl ([.ref (ox 0), .int x]) ++ List.replicate (2 - (lg_sl ([.ref (ox 0), .int x])).length) Slot.unset).toArray = ls at hl ⊢
  have hl : lv_has ls 2 [(0, .ref (ox 0)), (1, .int x)] := hl
  obtain ⟨⟨hV, hW, hM, hG⟩, hm, hwP, hk, hIH, hIL⟩ := hI
  have hR := hr.1
  refine lv_aload_n hx hb dX4_ifStruck_0 rfl (lv_at hl 0 rfl) ?_
  refine xGet C hN hP 0 (j := 0) rfl rfl iX4_ifStruck_X4 (by decide) kX4_ifStruck_12 rfl rfl dX4_ifStruck_1 ?_
  refine xGet C hN hP 12 (j := 0) rfl rfl iX4_ifStruck_X3 (by decide) kX4_ifStruck_52 rfl rfl dX4_ifStruck_4 ?_
  refine lv_iload_n hx hb dX4_ifStruck_7 rfl (lv_at hl 1 rfl) ?_
  refine xVro C hN (As := [.int x]) (rest := []) (q0 := 0) (c_X2_has xl D kA (fun i => os (i + 1)) f (V 0) x (by omega)) (cwV 1 hts gX4_ifStruck_X2_has rfl rfl rfl (by decide +kernel) ⟨Nat.le_of_ble_eq_true rfl, Nat.le_of_ble_eq_true rfl⟩) (xSubL (wc := (rulW kA (fun i => os (i + 1)) f (nI (V 0)))) hP [13, 14, 15, 16, 17, 18, 19] rfl) rfl rfl rfl rfl hl.1 rfl (Nat.le_of_ble_eq_true rfl) dX4_ifStruck_8 ⟨Nat.le_of_ble_eq_true rfl, Nat.le_of_ble_eq_true rfl⟩ ?_
  refine xIfNeB C (tgt := 16) dX4_ifStruck_11 (by decide) (fun h_11 => ?_) (fun h_11 => ?_)
  · skip
    obtain ⟨i, a_i, e_i, t_i⟩ := hasB_ex h_11 (by omega)
    rw [e_i] at hl
    skip
    refine lv_sipush (v := nI 1000) hx hb dX4_ifStruck_16 (by decide) ?_
    refine lv_aload_n hx hb dX4_ifStruck_19 rfl (lv_at hl 0 rfl) ?_
    refine lv_iload_n hx hb dX4_ifStruck_20 rfl (lv_at hl 1 rfl) ?_
    refine xWWi hS (va_runV (As := [.int (nI i)]) (rest := [.int (nI 1000)]) C (c_X4_triplesWithout xl D kA ox os ob ot sl hs h tf tz f g V ln kt tl hR hW hV i (by omega) A) (cwV 1 hts gX4_ifStruck_X4_triplesWithout rfl rfl rfl (by decide +kernel) ⟨Nat.le_of_ble_eq_true rfl, Nat.le_of_ble_eq_true rfl⟩) (xPreVw (q0 := 0) hN hP hD (xAll hS hA) rfl rfl rfl) rfl rfl hl.1 rfl (lv_room (Nat.le_of_ble_eq_true rfl)) dX4_ifStruck_21 ⟨Nat.le_of_ble_eq_true rfl, Nat.le_of_ble_eq_true rfl⟩) (fun r_21 u_21 H locs hq_21 hP hD hS => ?_)
    obtain ⟨rfl, tf_21, tz_21, rfl⟩ := hq_21
    have hP : va_P D vwCl ((clsN kA ox os ob ot sl hs h tf_21 tz_21 f g (V 0) (V 1) (V 2) ln kt) ++ tl) H := hP
    have hD : va_D A ((clsN kA ox os ob ot sl hs h tf_21 tz_21 f g (V 0) (V 1) (V 2) ln kt) ++ tl) := hD
    refine xIadd C dX4_ifStruck_24 ?_
    refine lv_aload_n hx hb dX4_ifStruck_25 rfl (lv_at hl 0 rfl) ?_
    refine xGet C hN hP 0 (j := 0) rfl rfl iX4_ifStruck_X4 (by decide) kX4_ifStruck_12 rfl rfl dX4_ifStruck_26 ?_
    refine xGet C hN hP 12 (j := 0) rfl rfl iX4_ifStruck_X3 (by decide) kX4_ifStruck_52 rfl rfl dX4_ifStruck_29 ?_
    refine xVro C hN (As := []) (rest := [.int (nI (1000 + (trpT (V 0 - 1) (delT (TV V) i))))]) (q0 := 0) (c_X2_triples xl D kA (fun i => os (i + 1)) f (V 0) (TV V) hR hW (by omega)) (cwV 0 hts gX4_ifStruck_X2_triples rfl rfl rfl (by decide +kernel) ⟨Nat.le_of_ble_eq_true rfl, Nat.le_of_ble_eq_true rfl⟩) (xSubL (wc := (rulW kA (fun i => os (i + 1)) f (nI (V 0)))) hP [13, 14, 15, 16, 17, 18, 19] rfl) rfl rfl rfl rfl hl.1 rfl (Nat.le_of_ble_eq_true rfl) dX4_ifStruck_32 ⟨Nat.le_of_ble_eq_true rfl, Nat.le_of_ble_eq_true rfl⟩ ?_
    refine xIsub C (by have := trp_le (n := V 0) (T := TV V); omega) dX4_ifStruck_35 ?_
    exact xRetI hx hb hret (v := nI ((1000 + (trpT (V 0 - 1) (delT (TV V) i))) - (trpT (V 0) (TV V)))) (retC (S2 := (V, ln, P, kt, HH, HB, LL)) (by simp [opIf, h_11, t_i]) ⟨sl, hs, h, tf_21, tz_21, f, g, tl, Q, rfl, hr, hpd, hQ⟩) hP hD hS dX4_ifStruck_36 hlocks
  · skip
    refine lv_iconst (v := (-1)) hx hb dX4_ifStruck_14 (by decide) ?_
    exact xRetI hx hb hret (v := (-1)) (retC (S2 := (V, ln, P, kt, HH, HB, LL)) (by simp [opIf, h_11]) ⟨sl, hs, h, tf, tz, f, g, tl, Q, rfl, hr, hpd, hQ⟩) hP hD hS dX4_ifStruck_15 hlocks

set_option maxHeartbeats 8000000 in
set_option maxRecDepth 100000 in
theorem c_X4_worstBan (xl : Launch) (D : va_G) (kA : Nat → ClassId) (ox os ob ot : Nat → Nat) (sl hs : Nat → Option Nat) (h : Nat → Int32) (tf : Nat → Nat → Int32) (tz : Int32) (f g : Nat → Nat → Int32) (V : Nat → Nat) (ln kt : Nat) (tl : va_W) (P : Nat → Nat) (HH : Nat → Nat → Nat) (HB : Nat → Bool) (LL : Nat → Nat → Nat) (Q : Nat → Option Ent) (hI : InvS (V, ln, P, kt, HH, HB, LL)) (hr : relN V f g) (hpd : relP h ln P) (hQ : QR kA sl hs tl kt HH HB LL Q) (A : Nat → Prop) : Met xl yX4_worstBan wsX4_worstBan { frames := 5, cells := 0, slots := 0, locals := 112 } (va_Pc [.ref (ox 0)] (xPw D kA A ((clsN kA ox os ob ot sl hs h tf tz f g (V 0) (V 1) (V 2) ln kt) ++ tl))) (xQi D A (fun r u => r = (opWorst (V, ln, P, kt, HH, HB, LL) ).1 ∧ ClsR kA ox os ob ot (opWorst (V, ln, P, kt, HH, HB, LL) ).2 u)) 0 0 A := by
  refine Met.ofW (cc := cX4_worstBan) (maxL := 5) (ret := (some .int)) (by decide) rfl ?_
  intro xp xe xs xm args xbe xme xc s₁ B hml hv
  obtain ⟨rfl, hP, hN, hD, hA⟩ := hv
  have hret := B.returns
  have C : CallFix xp xm xc cX4_worstBan 5 xs ([.ref (ox 0)] : List Value).toArray wsX4_worstBan RX4 := ⟨B.exec, B.bytes, hml, findClass_of_methodNamed B.named, atoms_spec (ws := wsX4_worstBan) B.pre⟩
  have hlocks := B.notSynchronized
  obtain ⟨hx, hb, _, hown, hts⟩ := id C
  have hS : va_S A xs.heap xs.heap [] := va_S.rf
  have hl := lv_entry ([.ref (ox 0)]) (n := 5) (Nat.le_of_ble_eq_true rfl)
  rw [lg_entry_eq]
  generalize (lg_sl ([.ref (ox 0)]) ++ List.replicate (5 - (lg_sl ([.ref (ox 0)])).length) Slot.unset).toArray = ls at hl ⊢
  have hl : lv_has ls 5 [(0, .ref (ox 0))] := hl
  obtain ⟨⟨hV, hW, hM, hG⟩, hm, hwP, hk, hIH, hIL⟩ := hI
  have hR := hr.1
  refine lv_bipush (v := (-6)) hx hb dX4_worstBan_0 (by decide) ?_
  refine lv_istore_n (lv' := [(1, .int (-6)), (0, .ref (ox 0))]) hx hb dX4_worstBan_2 rfl hl (by decide) rfl (fun ls hl => ?_)
  refine lv_iconst (v := (-1)) hx hb dX4_worstBan_3 (by decide) ?_
  refine lv_istore_n (lv' := [(2, .int (-1)), (1, .int (-6)), (0, .ref (ox 0))]) hx hb dX4_worstBan_4 rfl hl (by decide) rfl (fun ls hl => ?_)
  refine lv_iconst (v := nI 0) hx hb dX4_worstBan_5 (by decide) ?_
  refine lv_istore_n (lv' := [(3, .int (nI 0)), (2, .int (-1)), (1, .int (-6)), (0, .ref (ox 0))]) hx hb dX4_worstBan_6 rfl hl (by decide) rfl (fun ls hl => ?_)
  have L7 : ∀ (fuel : Nat), ∀ (i : Nat) (x : Int32) (m : Int32) (tf1 : Nat → Nat → Int32) (tz1 : Int32) (hmu : V 0 - i < fuel) (hi : i ≤ V 0) (hwb : Wb V i x m) (H : Heap) (locs : List Loc) (_ : va_P D vwCl ((clsN kA ox os ob ot sl hs h tf1 tz1 f g (V 0) (V 1) (V 2) ln kt) ++ tl) H) (_ : va_D A ((clsN kA ox os ob ot sl hs h tf1 tz1 f g (V 0) (V 1) (V 2) ln kt) ++ tl)) (_ : va_S A xs.heap H locs) (ls : Array Slot) (_ : lv_has ls 5 [(3, .int (nI i)), (2, .int m), (1, .int x), (0, .ref (ox 0))]), W xp xl xe (headSpec wsX4_worstBan { frames := 5, cells := 0, slots := 0, locals := 112 }).room xs xm ([.ref (ox 0)] : List Value).toArray xbe xme xc H locs 0 0 (MQ xbe (xQi D A (fun r u => r = (opWorst (V, ln, P, kt, HH, HB, LL) ).1 ∧ ClsR kA ox os ob ot (opWorst (V, ln, P, kt, HH, HB, LL) ).2 u)) ([.ref (ox 0)] : List Value).toArray xs 0 0 A) (F0 xm 7 ls []) := by
    intro fuel
    induction fuel with
    | zero => intro i x m tf1 tz1 hmu; exact absurd hmu (Nat.not_lt_zero _)
    | succ fuel ih7 =>
      intro i x m tf1 tz1 hmu hi hwb H locs hP hD hS ls hl
      refine lv_iload_n hx hb dX4_worstBan_7 rfl (lv_at hl 0 rfl) ?_
      refine lv_aload_n hx hb dX4_worstBan_8 rfl (lv_at hl 3 rfl) ?_
      refine xGet C hN hP 0 (j := 0) rfl rfl iX4_worstBan_X4 (by decide) kX4_worstBan_12 rfl rfl dX4_worstBan_9 ?_
      refine xGet C hN hP 12 (j := 0) rfl rfl iX4_worstBan_X3 (by decide) kX4_worstBan_52 rfl rfl dX4_worstBan_12 ?_
      refine xGet C hN hP 13 (j := 6) rfl rfl iX4_worstBan_X2 (by decide) kX4_worstBan_55 rfl rfl dX4_worstBan_15 ?_
      refine xIcmpGe C (tgt := 64) (by omega) (by omega) dX4_worstBan_18 (by decide) (fun h_18 => ?_) (fun h_18 => ?_)
      · skip
        refine lv_iload_n hx hb dX4_worstBan_64 rfl (lv_at hl 2 rfl) ?_
        exact xRetI hx hb hret (v := x) (retC (S2 := (V, ln, P, kt, HH, HB, LL)) (by simp [opWorst, ← Wb_r hwb, show V 0 = i by omega]) ⟨sl, hs, h, tf1, tz1, f, g, tl, Q, rfl, hr, hpd, hQ⟩) hP hD hS dX4_worstBan_65 hlocks
      · skip
        refine lv_aload_n hx hb dX4_worstBan_21 rfl (lv_at hl 3 rfl) ?_
        refine xGet C hN hP 0 (j := 0) rfl rfl iX4_worstBan_X4 (by decide) kX4_worstBan_12 rfl rfl dX4_worstBan_22 ?_
        refine xGet C hN hP 12 (j := 0) rfl rfl iX4_worstBan_X3 (by decide) kX4_worstBan_52 rfl rfl dX4_worstBan_25 ?_
        refine xGet C hN hP 13 (j := 1) rfl rfl iX4_worstBan_X2 (by decide) kX4_worstBan_76 rfl rfl dX4_worstBan_28 ?_
        refine lv_iload_n hx hb dX4_worstBan_31 rfl (lv_at hl 0 rfl) ?_
        refine xIald C hN hP 15 (j := i) (v := nI (TV V i 1)) rfl (by omega) (by decide) ((hR i (by omega)).2.1) dX4_worstBan_32 ?_
        refine lv_iconst (v := nI 1) hx hb dX4_worstBan_33 (by decide) ?_
        refine xIcmpEq C (tgt := 40) (by have := hW i (by omega); omega) (by decide) dX4_worstBan_34 (by decide) (fun h_34 => ?_) (fun h_34 => ?_)
        · skip
          refine lv_aload_n hx hb dX4_worstBan_40 rfl (lv_at hl 3 rfl) ?_
          refine lv_iload_n hx hb dX4_worstBan_41 rfl (lv_at hl 0 rfl) ?_
          refine xWWi hS (va_runV (As := [.int (nI i)]) (rest := []) C (c_X4_triplesWithout xl D kA ox os ob ot sl hs h tf1 tz1 f g V ln kt tl hR hW hV i (by omega) A) (cwV 1 hts gX4_worstBan_X4_triplesWithout rfl rfl rfl (by decide +kernel) ⟨Nat.le_of_ble_eq_true rfl, Nat.le_of_ble_eq_true rfl⟩) (xPreVw (q0 := 0) hN hP hD (xAll hS hA) rfl rfl rfl) rfl rfl hl.1 rfl (lv_room (Nat.le_of_ble_eq_true rfl)) dX4_worstBan_42 ⟨Nat.le_of_ble_eq_true rfl, Nat.le_of_ble_eq_true rfl⟩) (fun r_42 u_42 H locs hq_42 hP hD hS => ?_)
          obtain ⟨rfl, tf_42, tz_42, rfl⟩ := hq_42
          have hP : va_P D vwCl ((clsN kA ox os ob ot sl hs h tf_42 tz_42 f g (V 0) (V 1) (V 2) ln kt) ++ tl) H := hP
          have hD : va_D A ((clsN kA ox os ob ot sl hs h tf_42 tz_42 f g (V 0) (V 1) (V 2) ln kt) ++ tl) := hD
          refine lv_istore (lv' := [(4, .int (nI (trpT (V 0 - 1) (delT (TV V) i)))), (3, .int (nI i)), (2, .int m), (1, .int x), (0, .ref (ox 0))]) hx hb dX4_worstBan_45 hl (by decide) rfl (fun ls hl => ?_)
          refine lv_iload hx hb dX4_worstBan_47 (lv_at hl 0 rfl) ?_
          refine lv_iload_n hx hb dX4_worstBan_49 rfl (lv_at hl 2 rfl) ?_
          refine lv_icmp_le (tgt := 58) hx hb dX4_worstBan_50 (by decide) (fun h_50 => ?_) (fun h_50 => ?_)
          · skip
            refine xIinc C (kx := 1) (d := 1) (lv' := [(3, .int (nI (i + 1))), (4, .int (nI (trpT (V 0 - 1) (delT (TV V) i)))), (2, .int m), (1, .int x), (0, .ref (ox 0))]) dX4_worstBan_58 hl rfl (by decide) (by decide) rfl (fun ls hl => ?_)
            refine lv_goto (tgt := 7) hx hb dX4_worstBan_61 (by decide) ?_
            have hP : va_P D vwCl ((clsN kA ox os ob ot sl hs h tf_42 tz_42 f g (V 0) (V 1) (V 2) ln kt) ++ tl) H := hP
            exact ih7 (i + 1) x m tf_42 tz_42 (by omega) (by omega) (by first | exact Wb_t h_34 h_50 hwb | exact Wb_f (Or.inr h_50) hwb | exact Wb_f (Or.inl h_34) hwb) _ _ hP hD hS _ (lv_sub hl [0, 2, 3, 4] rfl)
          · skip
            refine lv_iload hx hb dX4_worstBan_53 (lv_at hl 0 rfl) ?_
            refine lv_istore_n (lv' := [(2, .int (nI (trpT (V 0 - 1) (delT (TV V) i)))), (4, .int (nI (trpT (V 0 - 1) (delT (TV V) i)))), (3, .int (nI i)), (1, .int x), (0, .ref (ox 0))]) hx hb dX4_worstBan_55 rfl hl (by decide) rfl (fun ls hl => ?_)
            refine lv_iload_n hx hb dX4_worstBan_56 rfl (lv_at hl 2 rfl) ?_
            refine lv_istore_n (lv' := [(1, .int (nI i)), (2, .int (nI (trpT (V 0 - 1) (delT (TV V) i)))), (4, .int (nI (trpT (V 0 - 1) (delT (TV V) i)))), (3, .int (nI i)), (0, .ref (ox 0))]) hx hb dX4_worstBan_57 rfl hl (by decide) rfl (fun ls hl => ?_)
            refine xIinc C (kx := 3) (d := 1) (lv' := [(3, .int (nI (i + 1))), (1, .int (nI i)), (2, .int (nI (trpT (V 0 - 1) (delT (TV V) i)))), (4, .int (nI (trpT (V 0 - 1) (delT (TV V) i)))), (0, .ref (ox 0))]) dX4_worstBan_58 hl rfl (by decide) (by decide) rfl (fun ls hl => ?_)
            refine lv_goto (tgt := 7) hx hb dX4_worstBan_61 (by decide) ?_
            have hP : va_P D vwCl ((clsN kA ox os ob ot sl hs h tf_42 tz_42 f g (V 0) (V 1) (V 2) ln kt) ++ tl) H := hP
            exact ih7 (i + 1) (nI i) (nI (trpT (V 0 - 1) (delT (TV V) i))) tf_42 tz_42 (by omega) (by omega) (by first | exact Wb_t h_34 h_50 hwb | exact Wb_f (Or.inr h_50) hwb | exact Wb_f (Or.inl h_34) hwb) _ _ hP hD hS _ (lv_sub hl [0, 2, 1, 4] rfl)
        · skip
          refine lv_goto (tgt := 58) hx hb dX4_worstBan_37 (by decide) ?_
          refine xIinc C (kx := 0) (d := 1) (lv' := [(3, .int (nI (i + 1))), (2, .int m), (1, .int x), (0, .ref (ox 0))]) dX4_worstBan_58 hl rfl (by decide) (by decide) rfl (fun ls hl => ?_)
          refine lv_goto (tgt := 7) hx hb dX4_worstBan_61 (by decide) ?_
          have hP : va_P D vwCl ((clsN kA ox os ob ot sl hs h tf1 tz1 f g (V 0) (V 1) (V 2) ln kt) ++ tl) H := hP
          exact ih7 (i + 1) x m tf1 tz1 (by omega) (by omega) (by first | exact Wb_t h_34 h_50 hwb | exact Wb_f (Or.inr h_50) hwb | exact Wb_f (Or.inl h_34) hwb) _ _ hP hD hS _ (lv_sub hl [0, 1, 2, 3] rfl)
  exact L7 _ 0 (-6) (-1) tf tz (Nat.lt_succ_self _) (by omega) ⟨0, rfl, by omega, Or.inl ⟨rfl, rfl⟩⟩ _ _ hP hD hS _ (lv_sub hl [0, 1, 2, 3] rfl)

set_option maxHeartbeats 8000000 in
set_option maxRecDepth 100000 in
theorem c_X4_bestWaiver (xl : Launch) (D : va_G) (kA : Nat → ClassId) (ox os ob ot : Nat → Nat) (sl hs : Nat → Option Nat) (h : Nat → Int32) (tf : Nat → Nat → Int32) (tz : Int32) (f g : Nat → Nat → Int32) (V : Nat → Nat) (ln kt : Nat) (tl : va_W) (P : Nat → Nat) (HH : Nat → Nat → Nat) (HB : Nat → Bool) (LL : Nat → Nat → Nat) (Q : Nat → Option Ent) (hI : InvS (V, ln, P, kt, HH, HB, LL)) (hr : relN V f g) (hpd : relP h ln P) (hQ : QR kA sl hs tl kt HH HB LL Q) (z : Int32) (A : Nat → Prop) : Met xl yX4_bestWaiver wsX4_bestWaiver { frames := 5, cells := 0, slots := 0, locals := 113 } (va_Pc [.ref (ox 0), .int z] (xPw D kA A ((clsN kA ox os ob ot sl hs h tf tz f g (V 0) (V 1) (V 2) ln kt) ++ tl))) (xQi D A (fun r u => r = (opBest (V, ln, P, kt, HH, HB, LL) z).1 ∧ ClsR kA ox os ob ot (opBest (V, ln, P, kt, HH, HB, LL) z).2 u)) 0 0 A := by
  refine Met.ofW (cc := cX4_bestWaiver) (maxL := 6) (ret := (some .int)) (by decide) rfl ?_
  intro xp xe xs xm args xbe xme xc s₁ B hml hv
  obtain ⟨rfl, hP, hN, hD, hA⟩ := hv
  have hret := B.returns
  have C : CallFix xp xm xc cX4_bestWaiver 6 xs ([.ref (ox 0), .int z] : List Value).toArray wsX4_bestWaiver RX4 := ⟨B.exec, B.bytes, hml, findClass_of_methodNamed B.named, atoms_spec (ws := wsX4_bestWaiver) B.pre⟩
  have hlocks := B.notSynchronized
  obtain ⟨hx, hb, _, hown, hts⟩ := id C
  have hS : va_S A xs.heap xs.heap [] := va_S.rf
  have hl := lv_entry ([.ref (ox 0), .int z]) (n := 6) (Nat.le_of_ble_eq_true rfl)
  rw [lg_entry_eq]
  generalize (lg_sl ([.ref (ox 0), .int z]) ++ List.replicate (6 - (lg_sl ([.ref (ox 0), .int z])).length) Slot.unset).toArray = ls at hl ⊢
  have hl : lv_has ls 6 [(0, .ref (ox 0)), (1, .int z)] := hl
  obtain ⟨⟨hV, hW, hM, hG⟩, hm, hwP, hk, hIH, hIL⟩ := hI
  have hR := hr.1
  refine lv_iload_n hx hb dX4_bestWaiver_0 rfl (lv_at hl 1 rfl) ?_
  refine xSro C hN (As := [.int z]) (rest := []) (c_X4_isSeal xl D kA z) (va_cwS 1 hts gX4_bestWaiver_X4_isSeal rfl rfl rfl (by decide +kernel) ⟨Nat.le_of_ble_eq_true rfl, Nat.le_of_ble_eq_true rfl⟩) (xSubL (wc := []) hP [] rfl) rfl hl.1 rfl (Nat.le_of_ble_eq_true rfl) dX4_bestWaiver_1 ⟨Nat.le_of_ble_eq_true rfl, Nat.le_of_ble_eq_true rfl⟩ ?_
  refine xIfNeB C (tgt := 10) dX4_bestWaiver_4 (by decide) (fun h_4 => ?_) (fun h_4 => ?_)
  · skip
    obtain ⟨z1, a_z1, b_z1, e_z1, t_z1⟩ := inR_ex h_4 (by decide) (by decide)
    rw [e_z1] at hl
    skip
    refine lv_iconst (v := nI 0) hx hb dX4_bestWaiver_10 (by decide) ?_
    refine lv_istore_n (lv' := [(2, .int (nI 0)), (0, .ref (ox 0)), (1, .int (nI z1))]) hx hb dX4_bestWaiver_11 rfl hl (by decide) rfl (fun ls hl => ?_)
    refine lv_iconst (v := (-1)) hx hb dX4_bestWaiver_12 (by decide) ?_
    refine lv_istore_n (lv' := [(3, .int (-1)), (2, .int (nI 0)), (0, .ref (ox 0)), (1, .int (nI z1))]) hx hb dX4_bestWaiver_13 rfl hl (by decide) rfl (fun ls hl => ?_)
    refine lv_iconst (v := nI 0) hx hb dX4_bestWaiver_14 (by decide) ?_
    refine lv_istore (lv' := [(4, .int (nI 0)), (3, .int (-1)), (2, .int (nI 0)), (0, .ref (ox 0)), (1, .int (nI z1))]) hx hb dX4_bestWaiver_15 hl (by decide) rfl (fun ls hl => ?_)
    have L17 : ∀ (fuel : Nat), ∀ (l : Nat) (b : Nat) (m : Int32) (tf1 : Nat → Nat → Int32) (tz1 : Int32) (hmu : 5 - l < fuel) (hl5 : l ≤ 5) (hwb : Bw V z1 l b m) (H : Heap) (locs : List Loc) (_ : va_P D vwCl ((clsN kA ox os ob ot sl hs h tf1 tz1 f g (V 0) (V 1) (V 2) ln kt) ++ tl) H) (_ : va_D A ((clsN kA ox os ob ot sl hs h tf1 tz1 f g (V 0) (V 1) (V 2) ln kt) ++ tl)) (_ : va_S A xs.heap H locs) (ls : Array Slot) (_ : lv_has ls 6 [(4, .int (nI l)), (3, .int m), (2, .int (nI b)), (0, .ref (ox 0)), (1, .int (nI z1))]), W xp xl xe (headSpec wsX4_bestWaiver { frames := 5, cells := 0, slots := 0, locals := 113 }).room xs xm ([.ref (ox 0), .int z] : List Value).toArray xbe xme xc H locs 0 0 (MQ xbe (xQi D A (fun r u => r = (opBest (V, ln, P, kt, HH, HB, LL) z).1 ∧ ClsR kA ox os ob ot (opBest (V, ln, P, kt, HH, HB, LL) z).2 u)) ([.ref (ox 0), .int z] : List Value).toArray xs 0 0 A) (F0 xm 17 ls []) := by
      intro fuel
      induction fuel with
      | zero => intro l b m tf1 tz1 hmu; exact absurd hmu (Nat.not_lt_zero _)
      | succ fuel ih17 =>
        intro l b m tf1 tz1 hmu hl5 hwb H locs hP hD hS ls hl
        refine lv_iload hx hb dX4_bestWaiver_17 (lv_at hl 0 rfl) ?_
        refine lv_iconst (v := nI 5) hx hb dX4_bestWaiver_19 (by decide) ?_
        refine xIcmpGe C (tgt := 50) (by omega) (by decide) dX4_bestWaiver_20 (by decide) (fun h_20 => ?_) (fun h_20 => ?_)
        · skip
          refine lv_iload_n hx hb dX4_bestWaiver_50 rfl (lv_at hl 2 rfl) ?_
          exact xRetI hx hb hret (v := nI b) (retC (S2 := (V, ln, P, kt, HH, HB, LL)) (by simp [opBest, h_4, t_z1, ← Bw_r hwb, show l = 5 by omega]) ⟨sl, hs, h, tf1, tz1, f, g, tl, Q, rfl, hr, hpd, hQ⟩) hP hD hS dX4_bestWaiver_51 hlocks
        · skip
          refine lv_aload_n hx hb dX4_bestWaiver_23 rfl (lv_at hl 3 rfl) ?_
          refine lv_iload hx hb dX4_bestWaiver_24 (lv_at hl 0 rfl) ?_
          refine lv_iload_n hx hb dX4_bestWaiver_26 rfl (lv_at hl 4 rfl) ?_
          refine xWWi hS (va_runV (As := [.int (nI l), .int (nI z1)]) (rest := []) C (c_X4_triplesWithWaiver xl D kA ox os ob ot sl hs h tf1 tz1 f g V ln kt tl hR hW hV l z1 (by omega) (by omega) A) (cwV 2 hts gX4_bestWaiver_X4_triplesWithWaiver rfl rfl rfl (by decide +kernel) ⟨Nat.le_of_ble_eq_true rfl, Nat.le_of_ble_eq_true rfl⟩) (xPreVw (q0 := 0) hN hP hD (xAll hS hA) rfl rfl rfl) rfl rfl hl.1 rfl (lv_room (Nat.le_of_ble_eq_true rfl)) dX4_bestWaiver_27 ⟨Nat.le_of_ble_eq_true rfl, Nat.le_of_ble_eq_true rfl⟩) (fun r_27 u_27 H locs hq_27 hP hD hS => ?_)
          obtain ⟨rfl, tf_27, tz_27, rfl⟩ := hq_27
          have hP : va_P D vwCl ((clsN kA ox os ob ot sl hs h tf_27 tz_27 f g (V 0) (V 1) (V 2) ln kt) ++ tl) H := hP
          have hD : va_D A ((clsN kA ox os ob ot sl hs h tf_27 tz_27 f g (V 0) (V 1) (V 2) ln kt) ++ tl) := hD
          refine lv_istore (lv' := [(5, .int (nI (trpT (V 0 + 1) (wavT (V 0) (TV V) l z1)))), (4, .int (nI l)), (3, .int m), (2, .int (nI b)), (0, .ref (ox 0)), (1, .int (nI z1))]) hx hb dX4_bestWaiver_30 hl (by decide) rfl (fun ls hl => ?_)
          refine lv_iload hx hb dX4_bestWaiver_32 (lv_at hl 0 rfl) ?_
          refine lv_iload_n hx hb dX4_bestWaiver_34 rfl (lv_at hl 2 rfl) ?_
          refine lv_icmp_lt (tgt := 44) hx hb dX4_bestWaiver_35 (by decide) (fun h_35 => ?_) (fun h_35 => ?_)
          · skip
            refine xIinc C (kx := 1) (d := 1) (lv' := [(4, .int (nI (l + 1))), (5, .int (nI (trpT (V 0 + 1) (wavT (V 0) (TV V) l z1)))), (3, .int m), (2, .int (nI b)), (0, .ref (ox 0)), (1, .int (nI z1))]) dX4_bestWaiver_44 hl rfl (by decide) (by decide) rfl (fun ls hl => ?_)
            refine lv_goto (tgt := 17) hx hb dX4_bestWaiver_47 (by decide) ?_
            have hP : va_P D vwCl ((clsN kA ox os ob ot sl hs h tf_27 tz_27 f g (V 0) (V 1) (V 2) ln kt) ++ tl) H := hP
            exact ih17 (l + 1) b m tf_27 tz_27 (by omega) (by omega) (by first | exact Bw_f h_35 hwb | exact Bw_t h_35 hwb) _ _ hP hD hS _ (lv_sub hl [0, 2, 3, 4, 5] rfl)
          · skip
            refine lv_iload hx hb dX4_bestWaiver_38 (lv_at hl 0 rfl) ?_
            refine lv_istore_n (lv' := [(3, .int (nI (trpT (V 0 + 1) (wavT (V 0) (TV V) l z1)))), (5, .int (nI (trpT (V 0 + 1) (wavT (V 0) (TV V) l z1)))), (4, .int (nI l)), (2, .int (nI b)), (0, .ref (ox 0)), (1, .int (nI z1))]) hx hb dX4_bestWaiver_40 rfl hl (by decide) rfl (fun ls hl => ?_)
            refine lv_iload hx hb dX4_bestWaiver_41 (lv_at hl 2 rfl) ?_
            refine lv_istore_n (lv' := [(2, .int (nI l)), (3, .int (nI (trpT (V 0 + 1) (wavT (V 0) (TV V) l z1)))), (5, .int (nI (trpT (V 0 + 1) (wavT (V 0) (TV V) l z1)))), (4, .int (nI l)), (0, .ref (ox 0)), (1, .int (nI z1))]) hx hb dX4_bestWaiver_43 rfl hl (by decide) rfl (fun ls hl => ?_)
            refine xIinc C (kx := 3) (d := 1) (lv' := [(4, .int (nI (l + 1))), (2, .int (nI l)), (3, .int (nI (trpT (V 0 + 1) (wavT (V 0) (TV V) l z1)))), (5, .int (nI (trpT (V 0 + 1) (wavT (V 0) (TV V) l z1)))), (0, .ref (ox 0)), (1, .int (nI z1))]) dX4_bestWaiver_44 hl rfl (by decide) (by decide) rfl (fun ls hl => ?_)
            refine lv_goto (tgt := 17) hx hb dX4_bestWaiver_47 (by decide) ?_
            have hP : va_P D vwCl ((clsN kA ox os ob ot sl hs h tf_27 tz_27 f g (V 0) (V 1) (V 2) ln kt) ++ tl) H := hP
            exact ih17 (l + 1) l (nI (trpT (V 0 + 1) (wavT (V 0) (TV V) l z1))) tf_27 tz_27 (by omega) (by omega) (by first | exact Bw_f h_35 hwb | exact Bw_t h_35 hwb) _ _ hP hD hS _ (lv_sub hl [0, 2, 1, 4, 5] rfl)
    exact L17 _ 0 0 (-1) tf tz (Nat.lt_succ_self _) (by omega) ⟨0, rfl, by omega, Or.inl ⟨rfl, rfl, rfl⟩⟩ _ _ hP hD hS _ (lv_sub hl [0, 1, 2, 3, 4] rfl)
  · skip
    refine lv_bipush (v := (-2)) hx hb dX4_bestWaiver_7 (by decide) ?_
    exact xRetI hx hb hret (v := (-2)) (retC (S2 := (V, ln, P, kt, HH, HB, LL)) (by simp [opBest, h_4]) ⟨sl, hs, h, tf, tz, f, g, tl, Q, rfl, hr, hpd, hQ⟩) hP hD hS dX4_bestWaiver_9 hlocks
