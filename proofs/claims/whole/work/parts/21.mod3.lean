theorem n100b : (100 : Int32) = nI 100 := by decide
theorem ac_2 {V : Nat → Nat} {i : Nat} {rs : Int32} (h : rs = -6) : updN (updN V (129 + 4 * i + 2) (V (129 + 4 * i + 2) + 1)) 2 (updN V (129 + 4 * i + 2) (V (129 + 4 * i + 2) + 1) 2 + 1) = acV V i rs := by
  have e1 : acX rs = 2 := by unfold acX; rw [if_pos h]
  have e2 : acW V rs = 2 := by unfold acW; rw [if_pos h]
  unfold acV; rw [e1, e2]
theorem ac_8 {V : Nat → Nat} {i : Nat} {rs : Int32} (h : rs ≠ -6) (h2 : rs = nI 100) : updN (updN V (129 + 4 * i + 3) (V (129 + 4 * i + 3) + 1)) 8 (updN V (129 + 4 * i + 3) (V (129 + 4 * i + 3) + 1) 8 + 1) = acV V i rs := by
  have e1 : acX rs = 3 := by unfold acX; rw [if_neg h]
  have e2 : acW V rs = 8 := by unfold acW; rw [if_neg h, if_pos (by rw [n100b]; exact h2)]
  unfold acV; rw [e1, e2]
theorem ac_j {V : Nat → Nat} {i j : Nat} {rs : Int32} (h : rs = nI j) (h6 : ¬ nI j = -6) (h1 : ¬ nI j = nI 100) (ht : toN (nI j) = j) : updN (updN V (129 + 4 * i + 3) (V (129 + 4 * i + 3) + 1)) (3 + TV V j 0) (updN V (129 + 4 * i + 3) (V (129 + 4 * i + 3) + 1) (3 + TV V j 0) + 1) = acV V i rs := by
  subst h
  have e1 : acX (nI j) = 3 := by unfold acX; rw [if_neg h6]
  have e2 : acW V (nI j) = 3 + TV V j 0 := by unfold acW; rw [if_neg h6, if_neg (by rw [n100b]; exact h1), ht]
  unfold acV; rw [e1, e2]
theorem TV_g {V : Nat → Nat} {q x j w : Nat} (hj : j < 24) (hw : w < 5) (hq : 129 ≤ q) : TV (updN V q x) j w = TV V j w := by
  unfold TV updN; rw [if_neg (by omega)]
theorem inR_w {j b : Nat} (h : j ≤ b) (hb : b < 2 ^ 31) : inR (nI j) (nI 0) (nI b) = true := by
  rw [inR_nI (by omega) (by decide) hb]; unfold btwB; simp [h]
theorem inR_o {x : Int32} {n : Nat} (h : x.toInt < ((0 : Nat) : Int) ∨ ((0 : Nat) : Int) + ((n + 1 : Nat) : Int) ≤ x.toInt) (hn : n < 2 ^ 31 := by decide) : inR x (nI 0) (nI n) = false := by
  cases e : inR x (nI 0) (nI n)
  · rfl
  · rw [inR_iff (by decide) hn] at e; omega
theorem inR_n {x : Int32} (h : x.toInt < ((5 : Nat) : Int) ∨ ((5 : Nat) : Int) + ((3 : Nat) : Int) ≤ x.toInt) (h2 : inR x (nI 0) (nI 4) = false) : inR x (nI 0) (nI 7) = false := by
  cases e : inR x (nI 0) (nI 7)
  · rfl
  · rw [inR_iff (by decide) (by decide)] at e
    have : inR x (nI 0) (nI 4) = true := by rw [inR_iff (by decide) (by decide)]; omega
    rw [this] at h2; cases h2
theorem wb_t {V : Nat → Nat} {i t : Nat} {x : Int32} (h1 : TV V i 1 = 1) (h2 : x = -6 ∨ t < trpT (V 0 - 1) (delT (TV V) i)) (h : (x, t) = wbF V i) : (nI i, trpT (V 0 - 1) (delT (TV V) i)) = wbF V (i + 1) := by
  rw [wbF, ← h, if_pos ⟨h1, h2⟩]
theorem wb_f {V : Nat → Nat} {i t : Nat} {x : Int32} (h1 : TV V i 1 ≠ 1 ∨ (x ≠ -6 ∧ trpT (V 0 - 1) (delT (TV V) i) ≤ t)) (h : (x, t) = wbF V i) : (x, t) = wbF V (i + 1) := by
  rw [wbF, ← h, if_neg]
  rintro ⟨a, b⟩
  rcases h1 with h1 | ⟨c, d⟩
  · exact h1 a
  · rcases b with b | b
    · exact c b
    · exact absurd d (Nat.not_le.mpr b)
theorem bw_t {V : Nat → Nat} {z l b t : Nat} (h1 : t ≤ trpT (V 0 + 1) (wavT (V 0) (TV V) l z)) (h : (b, t) = bwF V z l) : (l, trpT (V 0 + 1) (wavT (V 0) (TV V) l z)) = bwF V z (l + 1) := by
  rw [bwF, ← h, if_pos h1]
theorem bw_f {V : Nat → Nat} {z l b t : Nat} (h1 : trpT (V 0 + 1) (wavT (V 0) (TV V) l z) < t) (h : (b, t) = bwF V z l) : (b, t) = bwF V z (l + 1) := by
  rw [bwF, ← h, if_neg (Nat.not_le.mpr h1)]
theorem odd_sym (T : Nat → Nat → Nat) (i j : Nat) : oddT T i j = oddT T j i := by
  unfold oddT meetT
  rw [show (T i 2 == T j 2 || T i 2 == 5 || T j 2 == 5) = (T j 2 == T i 2 || T j 2 == 5 || T i 2 == 5) by rw [Bool.beq_comm (a := T i 2), Bool.or_assoc, Bool.or_assoc, Bool.or_comm (T i 2 == 5)], show (T i 3 == T j 3 || T i 3 == 6 || T j 3 == 6) = (T j 3 == T i 3 || T j 3 == 6 || T i 3 == 6) by rw [Bool.beq_comm (a := T i 3), Bool.or_assoc, Bool.or_assoc, Bool.or_comm (T i 3 == 6)]]
  congr 1
  cases T i 1 == 1 <;> cases T j 1 == 1 <;> rfl
theorem odd_one {T : Nat → Nat → Nat} {i j : Nat} (h : oddT T i j = true) : ¬ (T i 1 = 1 ↔ T j 1 = 1) := by
  intro q
  have e : nI 0 = bI (oddT T i j) := oddT_z q
  rw [h] at e; exact absurd e (by decide)
theorem opr_two (n : Nat) (T : Nat → Nat → Nat) : sumN n (fun i => cntN n (fun j => oddT T i j)) = 2 * oprT n T := by
  have e1 : sumN n (fun i => cntN n (fun j => oddT T i j)) = sumN n (fun i => (if T i 1 = 1 then cntN n (fun j => oddT T i j) else 0) + (if T i 1 = 1 then 0 else cntN n (fun j => oddT T i j))) := sumN_cong (fun i _ => by split <;> omega)
  have e2 : sumN n (fun i => if T i 1 = 1 then 0 else cntN n (fun j => oddT T i j)) = oprT n T := by
    have : ∀ i, i < n → (if T i 1 = 1 then 0 else cntN n (fun j => oddT T i j)) = sumN n (fun j => if T j 1 = 1 then (if oddT T j i = true then 1 else 0) else 0) := by
      intro i _
      split
      · rename_i h
        refine Eq.trans (sumN_zero (n := n)).symm (sumN_cong (fun j _ => ?_))
        by_cases h2 : T j 1 = 1
        · rw [if_pos h2, if_neg (fun q => odd_one q ⟨fun _ => h, fun _ => h2⟩)]
        · rw [if_neg h2]
      · rename_i h
        unfold cntN
        refine sumN_cong (fun j _ => ?_)
        show (if oddT T i j = true then 1 else 0) = _
        rw [odd_sym T i j]
        by_cases c : T j 1 = 1
        · rw [if_pos c]
        · rw [if_neg c, if_neg (fun q => odd_one q ⟨fun z => absurd z c, fun z => absurd z h⟩)]
    rw [sumN_cong this, sumN_swap]
    unfold oprT
    refine sumN_cong (fun j _ => ?_)
    split
    · rfl
    · exact sumN_zero
  rw [e1, sumN_add, e2]
  show oprT n T + oprT n T = _
  omega
theorem sm_opr {V : Nat → Nat} : smF V 5 (V 0) / 2 = oprT (V 0) (TV V) := by
  have : smF V 5 (V 0) = 2 * oprT (V 0) (TV V) := by rw [← opr_two]; rfl
  omega
theorem sm5_lt {V : Nat → Nat} (hV : V 0 ≤ 24) : smF V 5 (V 0) < 2 ^ 31 := by
  have : smF V 5 (V 0) ≤ V 0 * 24 := sumN_le (fun i _ => Nat.le_trans (show cntN (V 0) (fun j => oddT (TV V) i j) ≤ V 0 * 1 from sumN_le (fun j _ => by split <;> omega)) (by omega))
  have : V 0 * 24 ≤ 24 * 24 := Nat.mul_le_mul_right 24 hV
  omega
theorem cn_sm1 {V : Nat → Nat} {m kt : Nat} : smF V 1 (V 0) = cnV V m kt 1 := sumN_cong (fun i _ => by unfold smP; simp)
theorem cn_sm2 {V : Nat → Nat} {m kt : Nat} : smF V 2 (V 0) = cnV V m kt 2 := sumN_cong (fun i _ => by unfold smP; simp)
theorem cn_sm3 {V : Nat → Nat} {m kt : Nat} : smF V 3 (V 0) = cnV V m kt 3 := sumN_cong (fun i _ => by unfold smP; simp)
theorem cn_sm4 {V : Nat → Nat} {m kt : Nat} : smF V 4 (V 0) = cnV V m kt 4 := sumN_cong (fun i _ => by unfold smP; simp)
set_option maxHeartbeats 8000000 in
set_option maxRecDepth 100000 in
theorem c_X5_add (xl : Launch) (D : va_G) (kA : Nat → ClassId) (a : Nat → Nat) (V : Nat → Nat) (hs sl sv pd sg : Nat → Int32) (kt ln td : Nat) (P : Nat → Nat) (HH : Nat → Nat → Nat) (HB : Nat → Bool) (LL : Nat → Nat → Nat) (hI : InvS (V, ln, P, kt, HH, HB, LL)) (hH : relH hs kt HH) (hpd : relP pd ln P) (hsv : relS sv sl HB LL) (l k c d z : Int32) (A : Nat → Prop) : Met xl yX5_add wsX5_add { frames := 2, cells := 0, slots := 0, locals := 47 } (va_Pc [.ref (a 0), .int l, .int k, .int c, .int d, .int z] (xPw D kA A [((a 0), .inr (5, [.ref (a 1), .ref (a 2), .int (nI kt), .ref (a 3), .ref (a 4), .ref (a 5), .int (nI ln), .ref (a 6), .int (nI td)])), ((a 1), .inl (kA 0, 169, .inl (vI V))), ((a 2), .inl (kA 0, 1014, .inl (hs))), ((a 3), .inl (kA 0, 338, .inl (sl))), ((a 4), .inl (kA 2, 2, .inl (sv))), ((a 5), .inl (kA 0, 60, .inl (pd))), ((a 6), .inl (kA 0, 5, .inl (sg)))])) (xQi D A (fun r u => r = (opAdd (V, ln, P, kt, HH, HB, LL) l k c d z).1 ∧ ModR kA a (opAdd (V, ln, P, kt, HH, HB, LL) l k c d z).2 u)) 0 0 A := by
  refine Met.ofW (cc := cX5_add) (maxL := 6) (ret := (some .int)) (by decide) rfl ?_
  intro xp xe xs xm args xbe xme xc s₁ B hml hv
  obtain ⟨rfl, hP, hN, hD, hA⟩ := hv
  have hret := B.returns
  have C : CallFix xp xm xc cX5_add 6 xs ([.ref (a 0), .int l, .int k, .int c, .int d, .int z] : List Value).toArray wsX5_add RX5 := ⟨B.exec, B.bytes, hml, findClass_of_methodNamed B.named, atoms_spec (ws := wsX5_add) B.pre⟩
  have hlocks := B.notSynchronized
  obtain ⟨hx, hb, _, hown, hts⟩ := id C
  have hS : va_S A xs.heap xs.heap [] := va_S.rf
  have hl := lv_entry ([.ref (a 0), .int l, .int k, .int c, .int d, .int z]) (n := 6) (Nat.le_of_ble_eq_true rfl)
  rw [lg_entry_eq]
  generalize (lg_sl ([.ref (a 0), .int l, .int k, .int c, .int d, .int z]) ++ List.replicate (6 - (lg_sl ([.ref (a 0), .int l, .int k, .int c, .int d, .int z])).length) Slot.unset).toArray = ls at hl ⊢
  have hl : lv_has ls 6 [(0, .ref (a 0)), (1, .int l), (2, .int k), (3, .int c), (4, .int d), (5, .int z)] := hl
  obtain ⟨⟨hV, hW, hM, hG⟩, hm, hwP, hk, hIH, hIL⟩ := hI
  refine lv_iload_n hx hb dX5_add_0 rfl (lv_at hl 1 rfl) ?_
  refine lv_iconst (v := nI 0) hx hb dX5_add_1 (by decide) ?_
  refine lv_iconst (v := nI 4) hx hb dX5_add_2 (by decide) ?_
  refine xSro C hN (As := [.int l, .int (nI 0), .int (nI 4)]) (rest := []) (c_X5_in xl D kA l (nI 0) (nI 4)) (va_cwS 3 hts gX5_add_X5_in rfl rfl rfl (by decide +kernel) ⟨Nat.le_of_ble_eq_true rfl, Nat.le_of_ble_eq_true rfl⟩) (hP.sub (ws' := []) [] rfl) rfl hl.1 rfl (Nat.le_of_ble_eq_true rfl) dX5_add_3 ⟨Nat.le_of_ble_eq_true rfl, Nat.le_of_ble_eq_true rfl⟩ ?_
  refine xIfEqB C (tgt := 29) dX5_add_6 (by decide) (fun h_6 => ?_) (fun h_6 => ?_)
  · skip
    refine lv_iconst (v := (-1)) hx hb dX5_add_29 (by decide) ?_
    exact xRetI hx hb hret (v := (-1)) (retS (S2 := (V, ln, P, kt, HH, HB, LL)) (by simp [opAdd, h_6]) ⟨hs, sl, sv, pd, sg, td, rfl, hH, hpd, hsv⟩) hP hD hS dX5_add_30 hlocks
  · skip
    refine lv_iload_n hx hb dX5_add_9 rfl (lv_at hl 3 rfl) ?_
    refine lv_iconst (v := nI 0) hx hb dX5_add_10 (by decide) ?_
    refine lv_iconst (v := nI 5) hx hb dX5_add_11 (by decide) ?_
    refine xSro C hN (As := [.int c, .int (nI 0), .int (nI 5)]) (rest := []) (c_X5_in xl D kA c (nI 0) (nI 5)) (va_cwS 3 hts gX5_add_X5_in rfl rfl rfl (by decide +kernel) ⟨Nat.le_of_ble_eq_true rfl, Nat.le_of_ble_eq_true rfl⟩) (hP.sub (ws' := []) [] rfl) rfl hl.1 rfl (Nat.le_of_ble_eq_true rfl) dX5_add_12 ⟨Nat.le_of_ble_eq_true rfl, Nat.le_of_ble_eq_true rfl⟩ ?_
    refine xIfEqB C (tgt := 29) dX5_add_15 (by decide) (fun h_15 => ?_) (fun h_15 => ?_)
    · skip
      refine lv_iconst (v := (-1)) hx hb dX5_add_29 (by decide) ?_
      exact xRetI hx hb hret (v := (-1)) (retS (S2 := (V, ln, P, kt, HH, HB, LL)) (by simp [opAdd, h_6, h_15]) ⟨hs, sl, sv, pd, sg, td, rfl, hH, hpd, hsv⟩) hP hD hS dX5_add_30 hlocks
    · skip
      refine lv_iload hx hb dX5_add_18 (lv_at hl 4 rfl) ?_
      refine lv_iconst (v := nI 0) hx hb dX5_add_20 (by decide) ?_
      refine lv_bipush (v := nI 6) hx hb dX5_add_21 (by decide) ?_
      refine xSro C hN (As := [.int d, .int (nI 0), .int (nI 6)]) (rest := []) (c_X5_in xl D kA d (nI 0) (nI 6)) (va_cwS 3 hts gX5_add_X5_in rfl rfl rfl (by decide +kernel) ⟨Nat.le_of_ble_eq_true rfl, Nat.le_of_ble_eq_true rfl⟩) (hP.sub (ws' := []) [] rfl) rfl hl.1 rfl (Nat.le_of_ble_eq_true rfl) dX5_add_23 ⟨Nat.le_of_ble_eq_true rfl, Nat.le_of_ble_eq_true rfl⟩ ?_
      refine xIfNeB C (tgt := 31) dX5_add_26 (by decide) (fun h_26 => ?_) (fun h_26 => ?_)
      · skip
        refine lv_iload_n hx hb dX5_add_31 rfl (lv_at hl 2 rfl) ?_
        refine lv_iconst (v := nI 0) hx hb dX5_add_32 (by decide) ?_
        refine lv_iconst (v := nI 2) hx hb dX5_add_33 (by decide) ?_
        refine xSro C hN (As := [.int k, .int (nI 0), .int (nI 2)]) (rest := []) (c_X5_in xl D kA k (nI 0) (nI 2)) (va_cwS 3 hts gX5_add_X5_in rfl rfl rfl (by decide +kernel) ⟨Nat.le_of_ble_eq_true rfl, Nat.le_of_ble_eq_true rfl⟩) (hP.sub (ws' := []) [] rfl) rfl hl.1 rfl (Nat.le_of_ble_eq_true rfl) dX5_add_34 ⟨Nat.le_of_ble_eq_true rfl, Nat.le_of_ble_eq_true rfl⟩ ?_
        refine xIfEqB C (tgt := 51) dX5_add_37 (by decide) (fun h_37 => ?_) (fun h_37 => ?_)
        · skip
          refine lv_bipush (v := (-2)) hx hb dX5_add_51 (by decide) ?_
          exact xRetI hx hb hret (v := (-2)) (retS (S2 := (V, ln, P, kt, HH, HB, LL)) (by simp [opAdd, h_6, h_15, h_26, h_37]) ⟨hs, sl, sv, pd, sg, td, rfl, hH, hpd, hsv⟩) hP hD hS dX5_add_53 hlocks
        · skip
          refine lv_iload hx hb dX5_add_40 (lv_at hl 5 rfl) ?_
          refine lv_iconst (v := nI 1) hx hb dX5_add_42 (by decide) ?_
          refine lv_bipush (v := nI 9) hx hb dX5_add_43 (by decide) ?_
          refine xSro C hN (As := [.int z, .int (nI 1), .int (nI 9)]) (rest := []) (c_X5_in xl D kA z (nI 1) (nI 9)) (va_cwS 3 hts gX5_add_X5_in rfl rfl rfl (by decide +kernel) ⟨Nat.le_of_ble_eq_true rfl, Nat.le_of_ble_eq_true rfl⟩) (hP.sub (ws' := []) [] rfl) rfl hl.1 rfl (Nat.le_of_ble_eq_true rfl) dX5_add_45 ⟨Nat.le_of_ble_eq_true rfl, Nat.le_of_ble_eq_true rfl⟩ ?_
          refine xIfNeB C (tgt := 54) dX5_add_48 (by decide) (fun h_48 => ?_) (fun h_48 => ?_)
          · skip
            obtain ⟨l1, a_l1, b_l1, e_l1, t_l1⟩ := inR_ex h_6 (by decide) (by decide)
            rw [e_l1] at hl
            skip
            obtain ⟨k1, a_k1, b_k1, e_k1, t_k1⟩ := inR_ex h_37 (by decide) (by decide)
            rw [e_k1] at hl
            skip
            obtain ⟨c1, a_c1, b_c1, e_c1, t_c1⟩ := inR_ex h_15 (by decide) (by decide)
            rw [e_c1] at hl
            skip
            obtain ⟨d1, a_d1, b_d1, e_d1, t_d1⟩ := inR_ex h_26 (by decide) (by decide)
            rw [e_d1] at hl
            skip
            obtain ⟨z1, a_z1, b_z1, e_z1, t_z1⟩ := inR_ex h_48 (by decide) (by decide)
            rw [e_z1] at hl
            skip
            refine lv_iload_n hx hb dX5_add_54 rfl (lv_at hl 2 rfl) ?_
            refine xIfNe C (tgt := 65) (by omega) dX5_add_55 (by decide) (fun h_55 => ?_) (fun h_55 => ?_)
            · skip
              have g_55 : ¬ k1 = 0 := by omega
              skip
              refine lv_aload_n hx hb dX5_add_65 rfl (lv_at hl 0 rfl) ?_
              refine xGet C hN hP 0 (j := 0) rfl rfl iX5_add_X5 (by decide) kX5_add_7 rfl rfl dX5_add_66 ?_
              refine lv_iconst (v := nI 0) hx hb dX5_add_69 (by decide) ?_
              refine xIald C hN hP 1 (j := 0) (v := nI (V 0)) rfl (by omega) (by decide) (rfl) dX5_add_70 ?_
              refine lv_bipush (v := nI 24) hx hb dX5_add_71 (by decide) ?_
              refine xIcmpNe C (tgt := 79) (by omega) (by decide) dX5_add_73 (by decide) (fun h_73 => ?_) (fun h_73 => ?_)
              · skip
                have g_73 : ¬ V 0 = 24 := h_73
                refine lv_aload_n hx hb dX5_add_79 rfl (lv_at hl 0 rfl) ?_
                refine xWWv hS (va_runV (As := []) (rest := []) C (c_X5_record xl D kA a V hs sl sv pd sg kt ln td HH hH hk A) (cwV 0 hts gX5_add_X5_record rfl rfl rfl (by decide +kernel) ⟨Nat.le_of_ble_eq_true rfl, Nat.le_of_ble_eq_true rfl⟩) (xPreVw (q0 := 0) hN hP hD (xAll hS hA) rfl rfl rfl) rfl rfl hl.1 rfl (lv_room (Nat.le_of_ble_eq_true rfl)) dX5_add_80 ⟨Nat.le_of_ble_eq_true rfl, Nat.le_of_ble_eq_true rfl⟩) (fun u_80 H locs hq_80 hP hD hS => ?_)
                obtain ⟨h_r, rfl, hh_r⟩ := hq_80
                have hP : va_P D vwCl [((a 0), .inr (5, [.ref (a 1), .ref (a 2), .int (nI (pushN kt)), .ref (a 3), .ref (a 4), .ref (a 5), .int (nI ln), .ref (a 6), .int (nI td)])), ((a 1), .inl (kA 0, 169, .inl (vI V))), ((a 2), .inl (kA 0, 1014, .inl (h_r))), ((a 3), .inl (kA 0, 338, .inl (sl))), ((a 4), .inl (kA 2, 2, .inl (sv))), ((a 5), .inl (kA 0, 60, .inl (pd))), ((a 6), .inl (kA 0, 5, .inl (sg)))] H := hP
                have hD : va_D A [((a 0), .inr (5, [.ref (a 1), .ref (a 2), .int (nI (pushN kt)), .ref (a 3), .ref (a 4), .ref (a 5), .int (nI ln), .ref (a 6), .int (nI td)])), ((a 1), .inl (kA 0, 169, .inl (vI V))), ((a 2), .inl (kA 0, 1014, .inl (h_r))), ((a 3), .inl (kA 0, 338, .inl (sl))), ((a 4), .inl (kA 2, 2, .inl (sv))), ((a 5), .inl (kA 0, 60, .inl (pd))), ((a 6), .inl (kA 0, 5, .inl (sg)))] := hD
                refine lv_aload_n hx hb dX5_add_83 rfl (lv_at hl 0 rfl) ?_
                refine lv_iload_n hx hb dX5_add_84 rfl (lv_at hl 1 rfl) ?_
                refine lv_iload_n hx hb dX5_add_85 rfl (lv_at hl 2 rfl) ?_
                refine lv_iload_n hx hb dX5_add_86 rfl (lv_at hl 3 rfl) ?_
                refine lv_iload hx hb dX5_add_87 (lv_at hl 4 rfl) ?_
                refine lv_iload hx hb dX5_add_89 (lv_at hl 5 rfl) ?_
                refine xWWi hS (va_runV (As := [.int (nI l1), .int (nI k1), .int (nI c1), .int (nI d1), .int (nI z1)]) (rest := []) C (c_X5_adds xl D kA a V h_r sl sv pd sg (pushN kt) ln td l1 k1 c1 d1 z1 (by omega) A) (cwV 5 hts gX5_add_X5_adds rfl rfl rfl (by decide +kernel) ⟨Nat.le_of_ble_eq_true rfl, Nat.le_of_ble_eq_true rfl⟩) (xPreVw (q0 := 0) hN hP hD (xAll hS hA) rfl rfl rfl) rfl rfl hl.1 rfl (lv_room (Nat.le_of_ble_eq_true rfl)) dX5_add_91 ⟨Nat.le_of_ble_eq_true rfl, Nat.le_of_ble_eq_true rfl⟩) (fun r_91 u_91 H locs hq_91 hP hD hS => ?_)
                obtain ⟨rfl, rfl⟩ := hq_91
                have hP : va_P D vwCl [((a 0), .inr (5, [.ref (a 1), .ref (a 2), .int (nI (pushN kt)), .ref (a 3), .ref (a 4), .ref (a 5), .int (nI ln), .ref (a 6), .int (nI td)])), ((a 1), .inl (kA 0, 169, .inl (vI (addV V l1 k1 c1 d1 z1)))), ((a 2), .inl (kA 0, 1014, .inl (h_r))), ((a 3), .inl (kA 0, 338, .inl (sl))), ((a 4), .inl (kA 2, 2, .inl (sv))), ((a 5), .inl (kA 0, 60, .inl (pd))), ((a 6), .inl (kA 0, 5, .inl (sg)))] H := hP
                have hD : va_D A [((a 0), .inr (5, [.ref (a 1), .ref (a 2), .int (nI (pushN kt)), .ref (a 3), .ref (a 4), .ref (a 5), .int (nI ln), .ref (a 6), .int (nI td)])), ((a 1), .inl (kA 0, 169, .inl (vI (addV V l1 k1 c1 d1 z1)))), ((a 2), .inl (kA 0, 1014, .inl (h_r))), ((a 3), .inl (kA 0, 338, .inl (sl))), ((a 4), .inl (kA 2, 2, .inl (sv))), ((a 5), .inl (kA 0, 60, .inl (pd))), ((a 6), .inl (kA 0, 5, .inl (sg)))] := hD
                exact xRetI hx hb hret (v := nI (V 0)) (retS (S2 := ((addV V l1 k1 c1 d1 z1), ln, P, (pushN kt), (pushH HH kt V), HB, LL)) (by simp [opAdd, h_6, h_15, h_26, h_37, h_48, t_l1, t_k1, t_c1, t_d1, t_z1, h_55, g_55, h_73]) ⟨h_r, sl, sv, pd, sg, td, rfl, hh_r, hpd, hsv⟩) hP hD hS dX5_add_94 hlocks
              · skip
                refine lv_bipush (v := (-4)) hx hb dX5_add_76 (by decide) ?_
                exact xRetI hx hb hret (v := (-4)) (retS (S2 := (V, ln, P, kt, HH, HB, LL)) (by simp [opAdd, h_6, h_15, h_26, h_37, h_48, t_l1, t_k1, t_c1, t_d1, t_z1, h_55, g_55, h_73]) ⟨hs, sl, sv, pd, sg, td, rfl, hH, hpd, hsv⟩) hP hD hS dX5_add_78 hlocks
            · skip
              refine lv_iload_n hx hb dX5_add_58 rfl (lv_at hl 1 rfl) ?_
              refine xIfLe C (tgt := 65) (by omega) dX5_add_59 (by decide) (fun h_59 => ?_) (fun h_59 => ?_)
              · skip
                refine lv_aload_n hx hb dX5_add_65 rfl (lv_at hl 0 rfl) ?_
                refine xGet C hN hP 0 (j := 0) rfl rfl iX5_add_X5 (by decide) kX5_add_7 rfl rfl dX5_add_66 ?_
                refine lv_iconst (v := nI 0) hx hb dX5_add_69 (by decide) ?_
                refine xIald C hN hP 1 (j := 0) (v := nI (V 0)) rfl (by omega) (by decide) (rfl) dX5_add_70 ?_
                refine lv_bipush (v := nI 24) hx hb dX5_add_71 (by decide) ?_
                refine xIcmpNe C (tgt := 79) (by omega) (by decide) dX5_add_73 (by decide) (fun h_73 => ?_) (fun h_73 => ?_)
                · skip
                  have g_73 : ¬ V 0 = 24 := h_73
                  refine lv_aload_n hx hb dX5_add_79 rfl (lv_at hl 0 rfl) ?_
                  refine xWWv hS (va_runV (As := []) (rest := []) C (c_X5_record xl D kA a V hs sl sv pd sg kt ln td HH hH hk A) (cwV 0 hts gX5_add_X5_record rfl rfl rfl (by decide +kernel) ⟨Nat.le_of_ble_eq_true rfl, Nat.le_of_ble_eq_true rfl⟩) (xPreVw (q0 := 0) hN hP hD (xAll hS hA) rfl rfl rfl) rfl rfl hl.1 rfl (lv_room (Nat.le_of_ble_eq_true rfl)) dX5_add_80 ⟨Nat.le_of_ble_eq_true rfl, Nat.le_of_ble_eq_true rfl⟩) (fun u_80 H locs hq_80 hP hD hS => ?_)
                  obtain ⟨h_r, rfl, hh_r⟩ := hq_80
                  have hP : va_P D vwCl [((a 0), .inr (5, [.ref (a 1), .ref (a 2), .int (nI (pushN kt)), .ref (a 3), .ref (a 4), .ref (a 5), .int (nI ln), .ref (a 6), .int (nI td)])), ((a 1), .inl (kA 0, 169, .inl (vI V))), ((a 2), .inl (kA 0, 1014, .inl (h_r))), ((a 3), .inl (kA 0, 338, .inl (sl))), ((a 4), .inl (kA 2, 2, .inl (sv))), ((a 5), .inl (kA 0, 60, .inl (pd))), ((a 6), .inl (kA 0, 5, .inl (sg)))] H := hP
                  have hD : va_D A [((a 0), .inr (5, [.ref (a 1), .ref (a 2), .int (nI (pushN kt)), .ref (a 3), .ref (a 4), .ref (a 5), .int (nI ln), .ref (a 6), .int (nI td)])), ((a 1), .inl (kA 0, 169, .inl (vI V))), ((a 2), .inl (kA 0, 1014, .inl (h_r))), ((a 3), .inl (kA 0, 338, .inl (sl))), ((a 4), .inl (kA 2, 2, .inl (sv))), ((a 5), .inl (kA 0, 60, .inl (pd))), ((a 6), .inl (kA 0, 5, .inl (sg)))] := hD
                  refine lv_aload_n hx hb dX5_add_83 rfl (lv_at hl 0 rfl) ?_
                  refine lv_iload_n hx hb dX5_add_84 rfl (lv_at hl 1 rfl) ?_
                  refine lv_iload_n hx hb dX5_add_85 rfl (lv_at hl 2 rfl) ?_
                  refine lv_iload_n hx hb dX5_add_86 rfl (lv_at hl 3 rfl) ?_
                  refine lv_iload hx hb dX5_add_87 (lv_at hl 4 rfl) ?_
                  refine lv_iload hx hb dX5_add_89 (lv_at hl 5 rfl) ?_
                  refine xWWi hS (va_runV (As := [.int (nI l1), .int (nI k1), .int (nI c1), .int (nI d1), .int (nI z1)]) (rest := []) C (c_X5_adds xl D kA a V h_r sl sv pd sg (pushN kt) ln td l1 k1 c1 d1 z1 (by omega) A) (cwV 5 hts gX5_add_X5_adds rfl rfl rfl (by decide +kernel) ⟨Nat.le_of_ble_eq_true rfl, Nat.le_of_ble_eq_true rfl⟩) (xPreVw (q0 := 0) hN hP hD (xAll hS hA) rfl rfl rfl) rfl rfl hl.1 rfl (lv_room (Nat.le_of_ble_eq_true rfl)) dX5_add_91 ⟨Nat.le_of_ble_eq_true rfl, Nat.le_of_ble_eq_true rfl⟩) (fun r_91 u_91 H locs hq_91 hP hD hS => ?_)
                  obtain ⟨rfl, rfl⟩ := hq_91
                  have hP : va_P D vwCl [((a 0), .inr (5, [.ref (a 1), .ref (a 2), .int (nI (pushN kt)), .ref (a 3), .ref (a 4), .ref (a 5), .int (nI ln), .ref (a 6), .int (nI td)])), ((a 1), .inl (kA 0, 169, .inl (vI (addV V l1 k1 c1 d1 z1)))), ((a 2), .inl (kA 0, 1014, .inl (h_r))), ((a 3), .inl (kA 0, 338, .inl (sl))), ((a 4), .inl (kA 2, 2, .inl (sv))), ((a 5), .inl (kA 0, 60, .inl (pd))), ((a 6), .inl (kA 0, 5, .inl (sg)))] H := hP
                  have hD : va_D A [((a 0), .inr (5, [.ref (a 1), .ref (a 2), .int (nI (pushN kt)), .ref (a 3), .ref (a 4), .ref (a 5), .int (nI ln), .ref (a 6), .int (nI td)])), ((a 1), .inl (kA 0, 169, .inl (vI (addV V l1 k1 c1 d1 z1)))), ((a 2), .inl (kA 0, 1014, .inl (h_r))), ((a 3), .inl (kA 0, 338, .inl (sl))), ((a 4), .inl (kA 2, 2, .inl (sv))), ((a 5), .inl (kA 0, 60, .inl (pd))), ((a 6), .inl (kA 0, 5, .inl (sg)))] := hD
                  exact xRetI hx hb hret (v := nI (V 0)) (retS (S2 := ((addV V l1 k1 c1 d1 z1), ln, P, (pushN kt), (pushH HH kt V), HB, LL)) (by simp [opAdd, h_6, h_15, h_26, h_37, h_48, t_l1, t_k1, t_c1, t_d1, t_z1, h_55, h_59, h_73]) ⟨h_r, sl, sv, pd, sg, td, rfl, hh_r, hpd, hsv⟩) hP hD hS dX5_add_94 hlocks
                · skip
                  refine lv_bipush (v := (-4)) hx hb dX5_add_76 (by decide) ?_
                  exact xRetI hx hb hret (v := (-4)) (retS (S2 := (V, ln, P, kt, HH, HB, LL)) (by simp [opAdd, h_6, h_15, h_26, h_37, h_48, t_l1, t_k1, t_c1, t_d1, t_z1, h_55, h_59, h_73]) ⟨hs, sl, sv, pd, sg, td, rfl, hH, hpd, hsv⟩) hP hD hS dX5_add_78 hlocks
              · skip
                refine lv_bipush (v := (-5)) hx hb dX5_add_62 (by decide) ?_
                exact xRetI hx hb hret (v := (-5)) (retS (S2 := (V, ln, P, kt, HH, HB, LL)) (by simp [opAdd, h_6, h_15, h_26, h_37, h_48, t_l1, t_k1, t_c1, t_d1, t_z1, h_55, h_59]) ⟨hs, sl, sv, pd, sg, td, rfl, hH, hpd, hsv⟩) hP hD hS dX5_add_64 hlocks
          · skip
            refine lv_bipush (v := (-2)) hx hb dX5_add_51 (by decide) ?_
            exact xRetI hx hb hret (v := (-2)) (retS (S2 := (V, ln, P, kt, HH, HB, LL)) (by simp [opAdd, h_6, h_15, h_26, h_37, h_48]) ⟨hs, sl, sv, pd, sg, td, rfl, hH, hpd, hsv⟩) hP hD hS dX5_add_53 hlocks
      · skip
        refine lv_iconst (v := (-1)) hx hb dX5_add_29 (by decide) ?_
        exact xRetI hx hb hret (v := (-1)) (retS (S2 := (V, ln, P, kt, HH, HB, LL)) (by simp [opAdd, h_6, h_15, h_26]) ⟨hs, sl, sv, pd, sg, td, rfl, hH, hpd, hsv⟩) hP hD hS dX5_add_30 hlocks

set_option maxHeartbeats 8000000 in
set_option maxRecDepth 100000 in
theorem c_X5_strike (xl : Launch) (D : va_G) (kA : Nat → ClassId) (a : Nat → Nat) (V : Nat → Nat) (hs sl sv pd sg : Nat → Int32) (kt ln td : Nat) (P : Nat → Nat) (HH : Nat → Nat → Nat) (HB : Nat → Bool) (LL : Nat → Nat → Nat) (hI : InvS (V, ln, P, kt, HH, HB, LL)) (hH : relH hs kt HH) (hpd : relP pd ln P) (hsv : relS sv sl HB LL) (x : Int32) (A : Nat → Prop) : Met xl yX5_strike wsX5_strike { frames := 2, cells := 0, slots := 0, locals := 43 } (va_Pc [.ref (a 0), .int x] (xPw D kA A [((a 0), .inr (5, [.ref (a 1), .ref (a 2), .int (nI kt), .ref (a 3), .ref (a 4), .ref (a 5), .int (nI ln), .ref (a 6), .int (nI td)])), ((a 1), .inl (kA 0, 169, .inl (vI V))), ((a 2), .inl (kA 0, 1014, .inl (hs))), ((a 3), .inl (kA 0, 338, .inl (sl))), ((a 4), .inl (kA 2, 2, .inl (sv))), ((a 5), .inl (kA 0, 60, .inl (pd))), ((a 6), .inl (kA 0, 5, .inl (sg)))])) (xQi D A (fun r u => r = (opStrike (V, ln, P, kt, HH, HB, LL) x).1 ∧ ModR kA a (opStrike (V, ln, P, kt, HH, HB, LL) x).2 u)) 0 0 A := by
  refine Met.ofW (cc := cX5_strike) (maxL := 2) (ret := (some .int)) (by decide) rfl ?_
  intro xp xe xs xm args xbe xme xc s₁ B hml hv
  obtain ⟨rfl, hP, hN, hD, hA⟩ := hv
  have hret := B.returns
  have C : CallFix xp xm xc cX5_strike 2 xs ([.ref (a 0), .int x] : List Value).toArray wsX5_strike RX5 := ⟨B.exec, B.bytes, hml, findClass_of_methodNamed B.named, atoms_spec (ws := wsX5_strike) B.pre⟩
  have hlocks := B.notSynchronized
  obtain ⟨hx, hb, _, hown, hts⟩ := id C
  have hS : va_S A xs.heap xs.heap [] := va_S.rf
  have hl := lv_entry ([.ref (a 0), .int x]) (n := 2) (Nat.le_of_ble_eq_true rfl)
  rw [lg_entry_eq]
  generalize (lg_sl ([.ref (a 0), .int x]) ++ List.replicate (2 - (lg_sl ([.ref (a 0), .int x])).length) Slot.unset).toArray = ls at hl ⊢
  have hl : lv_has ls 2 [(0, .ref (a 0)), (1, .int x)] := hl
  obtain ⟨⟨hV, hW, hM, hG⟩, hm, hwP, hk, hIH, hIL⟩ := hI
  refine lv_aload_n hx hb dX5_strike_0 rfl (lv_at hl 0 rfl) ?_
  refine lv_iload_n hx hb dX5_strike_1 rfl (lv_at hl 1 rfl) ?_
  refine xVro C hN (As := [.int x]) (rest := []) (q0 := 0) (c_X5_isRule xl D kA a V hs sl sv pd sg kt ln td hV hW x) (cwV 1 hts gX5_strike_X5_isRule rfl rfl rfl (by decide +kernel) ⟨Nat.le_of_ble_eq_true rfl, Nat.le_of_ble_eq_true rfl⟩) hP rfl rfl rfl rfl hl.1 rfl (Nat.le_of_ble_eq_true rfl) dX5_strike_2 ⟨Nat.le_of_ble_eq_true rfl, Nat.le_of_ble_eq_true rfl⟩ ?_
  refine xIfNeB C (tgt := 10) dX5_strike_5 (by decide) (fun h_5 => ?_) (fun h_5 => ?_)
  · skip
    obtain ⟨i, a_i, e_i, t_i⟩ := hasB_ex h_5 (by omega)
    rw [e_i] at hl
    skip
    refine lv_aload_n hx hb dX5_strike_10 rfl (lv_at hl 0 rfl) ?_
    refine xWWv hS (va_runV (As := []) (rest := []) C (c_X5_record xl D kA a V hs sl sv pd sg kt ln td HH hH hk A) (cwV 0 hts gX5_strike_X5_record rfl rfl rfl (by decide +kernel) ⟨Nat.le_of_ble_eq_true rfl, Nat.le_of_ble_eq_true rfl⟩) (xPreVw (q0 := 0) hN hP hD (xAll hS hA) rfl rfl rfl) rfl rfl hl.1 rfl (lv_room (Nat.le_of_ble_eq_true rfl)) dX5_strike_11 ⟨Nat.le_of_ble_eq_true rfl, Nat.le_of_ble_eq_true rfl⟩) (fun u_11 H locs hq_11 hP hD hS => ?_)
    obtain ⟨h_r, rfl, hh_r⟩ := hq_11
    have hP : va_P D vwCl [((a 0), .inr (5, [.ref (a 1), .ref (a 2), .int (nI (pushN kt)), .ref (a 3), .ref (a 4), .ref (a 5), .int (nI ln), .ref (a 6), .int (nI td)])), ((a 1), .inl (kA 0, 169, .inl (vI V))), ((a 2), .inl (kA 0, 1014, .inl (h_r))), ((a 3), .inl (kA 0, 338, .inl (sl))), ((a 4), .inl (kA 2, 2, .inl (sv))), ((a 5), .inl (kA 0, 60, .inl (pd))), ((a 6), .inl (kA 0, 5, .inl (sg)))] H := hP
    have hD : va_D A [((a 0), .inr (5, [.ref (a 1), .ref (a 2), .int (nI (pushN kt)), .ref (a 3), .ref (a 4), .ref (a 5), .int (nI ln), .ref (a 6), .int (nI td)])), ((a 1), .inl (kA 0, 169, .inl (vI V))), ((a 2), .inl (kA 0, 1014, .inl (h_r))), ((a 3), .inl (kA 0, 338, .inl (sl))), ((a 4), .inl (kA 2, 2, .inl (sv))), ((a 5), .inl (kA 0, 60, .inl (pd))), ((a 6), .inl (kA 0, 5, .inl (sg)))] := hD
    refine lv_aload_n hx hb dX5_strike_14 rfl (lv_at hl 0 rfl) ?_
    refine lv_iload_n hx hb dX5_strike_15 rfl (lv_at hl 1 rfl) ?_
    refine xWWv hS (va_runV (As := [.int (nI i)]) (rest := []) C (c_X5_strikes xl D kA a V h_r sl sv pd sg (pushN kt) ln td i (by omega) hV A) (cwV 1 hts gX5_strike_X5_strikes rfl rfl rfl (by decide +kernel) ⟨Nat.le_of_ble_eq_true rfl, Nat.le_of_ble_eq_true rfl⟩) (xPreVw (q0 := 0) hN hP hD (xAll hS hA) rfl rfl rfl) rfl rfl hl.1 rfl (lv_room (Nat.le_of_ble_eq_true rfl)) dX5_strike_16 ⟨Nat.le_of_ble_eq_true rfl, Nat.le_of_ble_eq_true rfl⟩) (fun u_16 H locs hq_16 hP hD hS => ?_)
    subst hq_16
    have hP : va_P D vwCl [((a 0), .inr (5, [.ref (a 1), .ref (a 2), .int (nI (pushN kt)), .ref (a 3), .ref (a 4), .ref (a 5), .int (nI ln), .ref (a 6), .int (nI td)])), ((a 1), .inl (kA 0, 169, .inl (vI (strV V i)))), ((a 2), .inl (kA 0, 1014, .inl (h_r))), ((a 3), .inl (kA 0, 338, .inl (sl))), ((a 4), .inl (kA 2, 2, .inl (sv))), ((a 5), .inl (kA 0, 60, .inl (pd))), ((a 6), .inl (kA 0, 5, .inl (sg)))] H := hP
    have hD : va_D A [((a 0), .inr (5, [.ref (a 1), .ref (a 2), .int (nI (pushN kt)), .ref (a 3), .ref (a 4), .ref (a 5), .int (nI ln), .ref (a 6), .int (nI td)])), ((a 1), .inl (kA 0, 169, .inl (vI (strV V i)))), ((a 2), .inl (kA 0, 1014, .inl (h_r))), ((a 3), .inl (kA 0, 338, .inl (sl))), ((a 4), .inl (kA 2, 2, .inl (sv))), ((a 5), .inl (kA 0, 60, .inl (pd))), ((a 6), .inl (kA 0, 5, .inl (sg)))] := hD
    refine lv_aload_n hx hb dX5_strike_19 rfl (lv_at hl 0 rfl) ?_
    refine xGet C hN hP 0 (j := 0) rfl rfl iX5_strike_X5 (by decide) kX5_strike_7 rfl rfl dX5_strike_20 ?_
    refine lv_iconst (v := nI 0) hx hb dX5_strike_23 (by decide) ?_
    refine xIald C hN hP 1 (j := 0) (v := nI (V 0 - 1)) rfl (by omega) (by decide) (rfl) dX5_strike_24 ?_
    exact xRetI hx hb hret (v := nI (V 0 - 1)) (retS (S2 := ((strV V i), ln, P, (pushN kt), (pushH HH kt V), HB, LL)) (by simp [opStrike, h_5, t_i]) ⟨h_r, sl, sv, pd, sg, td, rfl, hh_r, hpd, hsv⟩) hP hD hS dX5_strike_25 hlocks
  · skip
    refine lv_iconst (v := (-1)) hx hb dX5_strike_8 (by decide) ?_
    exact xRetI hx hb hret (v := (-1)) (retS (S2 := (V, ln, P, kt, HH, HB, LL)) (by simp [opStrike, h_5]) ⟨hs, sl, sv, pd, sg, td, rfl, hH, hpd, hsv⟩) hP hD hS dX5_strike_9 hlocks

set_option maxHeartbeats 8000000 in
set_option maxRecDepth 100000 in
theorem c_X5_seal (xl : Launch) (D : va_G) (kA : Nat → ClassId) (a : Nat → Nat) (V : Nat → Nat) (hs sl sv pd sg : Nat → Int32) (kt ln td : Nat) (P : Nat → Nat) (HH : Nat → Nat → Nat) (HB : Nat → Bool) (LL : Nat → Nat → Nat) (hI : InvS (V, ln, P, kt, HH, HB, LL)) (hH : relH hs kt HH) (hpd : relP pd ln P) (hsv : relS sv sl HB LL) (x z : Int32) (A : Nat → Prop) : Met xl yX5_seal wsX5_seal { frames := 2, cells := 0, slots := 0, locals := 44 } (va_Pc [.ref (a 0), .int x, .int z] (xPw D kA A [((a 0), .inr (5, [.ref (a 1), .ref (a 2), .int (nI kt), .ref (a 3), .ref (a 4), .ref (a 5), .int (nI ln), .ref (a 6), .int (nI td)])), ((a 1), .inl (kA 0, 169, .inl (vI V))), ((a 2), .inl (kA 0, 1014, .inl (hs))), ((a 3), .inl (kA 0, 338, .inl (sl))), ((a 4), .inl (kA 2, 2, .inl (sv))), ((a 5), .inl (kA 0, 60, .inl (pd))), ((a 6), .inl (kA 0, 5, .inl (sg)))])) (xQi D A (fun r u => r = (opSeal (V, ln, P, kt, HH, HB, LL) x z).1 ∧ ModR kA a (opSeal (V, ln, P, kt, HH, HB, LL) x z).2 u)) 0 0 A := by
  refine Met.ofW (cc := cX5_seal) (maxL := 3) (ret := (some .int)) (by decide) rfl ?_
  intro xp xe xs xm args xbe xme xc s₁ B hml hv
  obtain ⟨rfl, hP, hN, hD, hA⟩ := hv
  have hret := B.returns
  have C : CallFix xp xm xc cX5_seal 3 xs ([.ref (a 0), .int x, .int z] : List Value).toArray wsX5_seal RX5 := ⟨B.exec, B.bytes, hml, findClass_of_methodNamed B.named, atoms_spec (ws := wsX5_seal) B.pre⟩
  have hlocks := B.notSynchronized
  obtain ⟨hx, hb, _, hown, hts⟩ := id C
  have hS : va_S A xs.heap xs.heap [] := va_S.rf
  have hl := lv_entry ([.ref (a 0), .int x, .int z]) (n := 3) (Nat.le_of_ble_eq_true rfl)
  rw [lg_entry_eq]
  generalize (lg_sl ([.ref (a 0), .int x, .int z]) ++ List.replicate (3 - (lg_sl ([.ref (a 0), .int x, .int z])).length) Slot.unset).toArray = ls at hl ⊢
  have hl : lv_has ls 3 [(0, .ref (a 0)), (1, .int x), (2, .int z)] := hl
  obtain ⟨⟨hV, hW, hM, hG⟩, hm, hwP, hk, hIH, hIL⟩ := hI
  refine lv_aload_n hx hb dX5_seal_0 rfl (lv_at hl 0 rfl) ?_
  refine lv_iload_n hx hb dX5_seal_1 rfl (lv_at hl 1 rfl) ?_
  refine xVro C hN (As := [.int x]) (rest := []) (q0 := 0) (c_X5_isRule xl D kA a V hs sl sv pd sg kt ln td hV hW x) (cwV 1 hts gX5_seal_X5_isRule rfl rfl rfl (by decide +kernel) ⟨Nat.le_of_ble_eq_true rfl, Nat.le_of_ble_eq_true rfl⟩) hP rfl rfl rfl rfl hl.1 rfl (Nat.le_of_ble_eq_true rfl) dX5_seal_2 ⟨Nat.le_of_ble_eq_true rfl, Nat.le_of_ble_eq_true rfl⟩ ?_
  refine xIfNeB C (tgt := 10) dX5_seal_5 (by decide) (fun h_5 => ?_) (fun h_5 => ?_)
  · skip
    obtain ⟨i, a_i, e_i, t_i⟩ := hasB_ex h_5 (by omega)
    rw [e_i] at hl
    skip
    refine lv_iload_n hx hb dX5_seal_10 rfl (lv_at hl 2 rfl) ?_
    refine lv_iconst (v := nI 1) hx hb dX5_seal_11 (by decide) ?_
    refine lv_bipush (v := nI 9) hx hb dX5_seal_12 (by decide) ?_
    refine xSro C hN (As := [.int z, .int (nI 1), .int (nI 9)]) (rest := []) (c_X5_in xl D kA z (nI 1) (nI 9)) (va_cwS 3 hts gX5_seal_X5_in rfl rfl rfl (by decide +kernel) ⟨Nat.le_of_ble_eq_true rfl, Nat.le_of_ble_eq_true rfl⟩) (hP.sub (ws' := []) [] rfl) rfl hl.1 rfl (Nat.le_of_ble_eq_true rfl) dX5_seal_14 ⟨Nat.le_of_ble_eq_true rfl, Nat.le_of_ble_eq_true rfl⟩ ?_
    refine xIfEqB C (tgt := 33) dX5_seal_17 (by decide) (fun h_17 => ?_) (fun h_17 => ?_)
    · skip
      refine lv_bipush (v := (-2)) hx hb dX5_seal_33 (by decide) ?_
      exact xRetI hx hb hret (v := (-2)) (retS (S2 := (V, ln, P, kt, HH, HB, LL)) (by simp [opSeal, h_5, t_i, h_17]) ⟨hs, sl, sv, pd, sg, td, rfl, hH, hpd, hsv⟩) hP hD hS dX5_seal_35 hlocks
    · skip
      obtain ⟨z1, a_z1, b_z1, e_z1, t_z1⟩ := inR_ex h_17 (by decide) (by decide)
      rw [e_z1] at hl
      skip
      refine lv_aload_n hx hb dX5_seal_20 rfl (lv_at hl 0 rfl) ?_
      refine lv_iload_n hx hb dX5_seal_21 rfl (lv_at hl 1 rfl) ?_
      refine lv_iconst (v := nI 4) hx hb dX5_seal_22 (by decide) ?_
      refine xSro C hN (As := [.int (nI i), .int (nI 4)]) (rest := [.ref (a 0)]) (c_X5_at xl D kA i 4) (va_cwS 2 hts gX5_seal_X5_at rfl rfl rfl (by decide +kernel) ⟨Nat.le_of_ble_eq_true rfl, Nat.le_of_ble_eq_true rfl⟩) (hP.sub (ws' := []) [] rfl) rfl hl.1 rfl (Nat.le_of_ble_eq_true rfl) dX5_seal_23 ⟨Nat.le_of_ble_eq_true rfl, Nat.le_of_ble_eq_true rfl⟩ ?_
      refine lv_iload_n hx hb dX5_seal_26 rfl (lv_at hl 2 rfl) ?_
      refine xWWi hS (va_runV (As := [.int (nI (9 + 5 * i + 4)), .int (nI z1)]) (rest := []) C (c_X5_lays xl D kA a V hs sl sv pd sg kt ln td (9 + 5 * i + 4) (z1) (by omega) HH hH hk A) (cwV 2 hts gX5_seal_X5_lays rfl rfl rfl (by decide +kernel) ⟨Nat.le_of_ble_eq_true rfl, Nat.le_of_ble_eq_true rfl⟩) (xPreVw (q0 := 0) hN hP hD (xAll hS hA) rfl rfl rfl) rfl rfl hl.1 rfl (lv_room (Nat.le_of_ble_eq_true rfl)) dX5_seal_27 ⟨Nat.le_of_ble_eq_true rfl, Nat.le_of_ble_eq_true rfl⟩) (fun r_27 u_27 H locs hq_27 hP hD hS => ?_)
      obtain ⟨rfl, h_r, rfl, hh_r⟩ := hq_27
      have hP : va_P D vwCl [((a 0), .inr (5, [.ref (a 1), .ref (a 2), .int (nI (pushN kt)), .ref (a 3), .ref (a 4), .ref (a 5), .int (nI ln), .ref (a 6), .int (nI td)])), ((a 1), .inl (kA 0, 169, .inl (vI (updN V (9 + 5 * i + 4) z1)))), ((a 2), .inl (kA 0, 1014, .inl (h_r))), ((a 3), .inl (kA 0, 338, .inl (sl))), ((a 4), .inl (kA 2, 2, .inl (sv))), ((a 5), .inl (kA 0, 60, .inl (pd))), ((a 6), .inl (kA 0, 5, .inl (sg)))] H := hP
      have hD : va_D A [((a 0), .inr (5, [.ref (a 1), .ref (a 2), .int (nI (pushN kt)), .ref (a 3), .ref (a 4), .ref (a 5), .int (nI ln), .ref (a 6), .int (nI td)])), ((a 1), .inl (kA 0, 169, .inl (vI (updN V (9 + 5 * i + 4) z1)))), ((a 2), .inl (kA 0, 1014, .inl (h_r))), ((a 3), .inl (kA 0, 338, .inl (sl))), ((a 4), .inl (kA 2, 2, .inl (sv))), ((a 5), .inl (kA 0, 60, .inl (pd))), ((a 6), .inl (kA 0, 5, .inl (sg)))] := hD
      refine lv_goto (tgt := 35) hx hb dX5_seal_30 (by decide) ?_
      exact xRetI hx hb hret (v := nI (V (9 + 5 * i + 4))) (retS (S2 := ((updN V (9 + 5 * i + 4) z1), ln, P, (pushN kt), (pushH HH kt V), HB, LL)) (by simp [opSeal, h_5, t_i, h_17, t_z1]) ⟨h_r, sl, sv, pd, sg, td, rfl, hh_r, hpd, hsv⟩) hP hD hS dX5_seal_35 hlocks
  · skip
    refine lv_iconst (v := (-1)) hx hb dX5_seal_8 (by decide) ?_
    exact xRetI hx hb hret (v := (-1)) (retS (S2 := (V, ln, P, kt, HH, HB, LL)) (by simp [opSeal, h_5]) ⟨hs, sl, sv, pd, sg, td, rfl, hH, hpd, hsv⟩) hP hD hS dX5_seal_9 hlocks

set_option maxHeartbeats 8000000 in
set_option maxRecDepth 100000 in
theorem c_X5_move (xl : Launch) (D : va_G) (kA : Nat → ClassId) (a : Nat → Nat) (V : Nat → Nat) (hs sl sv pd sg : Nat → Int32) (kt ln td : Nat) (P : Nat → Nat) (HH : Nat → Nat → Nat) (HB : Nat → Bool) (LL : Nat → Nat → Nat) (hI : InvS (V, ln, P, kt, HH, HB, LL)) (hH : relH hs kt HH) (hpd : relP pd ln P) (hsv : relS sv sl HB LL) (x l : Int32) (A : Nat → Prop) : Met xl yX5_move wsX5_move { frames := 2, cells := 0, slots := 0, locals := 44 } (va_Pc [.ref (a 0), .int x, .int l] (xPw D kA A [((a 0), .inr (5, [.ref (a 1), .ref (a 2), .int (nI kt), .ref (a 3), .ref (a 4), .ref (a 5), .int (nI ln), .ref (a 6), .int (nI td)])), ((a 1), .inl (kA 0, 169, .inl (vI V))), ((a 2), .inl (kA 0, 1014, .inl (hs))), ((a 3), .inl (kA 0, 338, .inl (sl))), ((a 4), .inl (kA 2, 2, .inl (sv))), ((a 5), .inl (kA 0, 60, .inl (pd))), ((a 6), .inl (kA 0, 5, .inl (sg)))])) (xQi D A (fun r u => r = (opMove (V, ln, P, kt, HH, HB, LL) x l).1 ∧ ModR kA a (opMove (V, ln, P, kt, HH, HB, LL) x l).2 u)) 0 0 A := by
  refine Met.ofW (cc := cX5_move) (maxL := 3) (ret := (some .int)) (by decide) rfl ?_
  intro xp xe xs xm args xbe xme xc s₁ B hml hv
  obtain ⟨rfl, hP, hN, hD, hA⟩ := hv
  have hret := B.returns
  have C : CallFix xp xm xc cX5_move 3 xs ([.ref (a 0), .int x, .int l] : List Value).toArray wsX5_move RX5 := ⟨B.exec, B.bytes, hml, findClass_of_methodNamed B.named, atoms_spec (ws := wsX5_move) B.pre⟩
  have hlocks := B.notSynchronized
  obtain ⟨hx, hb, _, hown, hts⟩ := id C
  have hS : va_S A xs.heap xs.heap [] := va_S.rf
  have hl := lv_entry ([.ref (a 0), .int x, .int l]) (n := 3) (Nat.le_of_ble_eq_true rfl)
  rw [lg_entry_eq]
  generalize (lg_sl ([.ref (a 0), .int x, .int l]) ++ List.replicate (3 - (lg_sl ([.ref (a 0), .int x, .int l])).length) Slot.unset).toArray = ls at hl ⊢
  have hl : lv_has ls 3 [(0, .ref (a 0)), (1, .int x), (2, .int l)] := hl
  obtain ⟨⟨hV, hW, hM, hG⟩, hm, hwP, hk, hIH, hIL⟩ := hI
  refine lv_aload_n hx hb dX5_move_0 rfl (lv_at hl 0 rfl) ?_
  refine lv_iload_n hx hb dX5_move_1 rfl (lv_at hl 1 rfl) ?_
  refine xVro C hN (As := [.int x]) (rest := []) (q0 := 0) (c_X5_isRule xl D kA a V hs sl sv pd sg kt ln td hV hW x) (cwV 1 hts gX5_move_X5_isRule rfl rfl rfl (by decide +kernel) ⟨Nat.le_of_ble_eq_true rfl, Nat.le_of_ble_eq_true rfl⟩) hP rfl rfl rfl rfl hl.1 rfl (Nat.le_of_ble_eq_true rfl) dX5_move_2 ⟨Nat.le_of_ble_eq_true rfl, Nat.le_of_ble_eq_true rfl⟩ ?_
  refine xIfEqB C (tgt := 17) dX5_move_5 (by decide) (fun h_5 => ?_) (fun h_5 => ?_)
  · skip
    refine lv_iconst (v := (-1)) hx hb dX5_move_17 (by decide) ?_
    exact xRetI hx hb hret (v := (-1)) (retS (S2 := (V, ln, P, kt, HH, HB, LL)) (by simp [opMove, h_5]) ⟨hs, sl, sv, pd, sg, td, rfl, hH, hpd, hsv⟩) hP hD hS dX5_move_18 hlocks
  · skip
    refine lv_iload_n hx hb dX5_move_8 rfl (lv_at hl 2 rfl) ?_
    refine lv_iconst (v := nI 0) hx hb dX5_move_9 (by decide) ?_
    refine lv_iconst (v := nI 4) hx hb dX5_move_10 (by decide) ?_
    refine xSro C hN (As := [.int l, .int (nI 0), .int (nI 4)]) (rest := []) (c_X5_in xl D kA l (nI 0) (nI 4)) (va_cwS 3 hts gX5_move_X5_in rfl rfl rfl (by decide +kernel) ⟨Nat.le_of_ble_eq_true rfl, Nat.le_of_ble_eq_true rfl⟩) (hP.sub (ws' := []) [] rfl) rfl hl.1 rfl (Nat.le_of_ble_eq_true rfl) dX5_move_11 ⟨Nat.le_of_ble_eq_true rfl, Nat.le_of_ble_eq_true rfl⟩ ?_
    refine xIfNeB C (tgt := 19) dX5_move_14 (by decide) (fun h_14 => ?_) (fun h_14 => ?_)
    · skip
      obtain ⟨i, a_i, e_i, t_i⟩ := hasB_ex h_5 (by omega)
      rw [e_i] at hl
      skip
      obtain ⟨l1, a_l1, b_l1, e_l1, t_l1⟩ := inR_ex h_14 (by decide) (by decide)
      rw [e_l1] at hl
      skip
      refine lv_aload_n hx hb dX5_move_19 rfl (lv_at hl 0 rfl) ?_
      refine lv_iload_n hx hb dX5_move_20 rfl (lv_at hl 1 rfl) ?_
      refine lv_iconst (v := nI 1) hx hb dX5_move_21 (by decide) ?_
      refine xVro C hN (As := [.int (nI i), .int (nI 1)]) (rest := []) (q0 := 0) (c_X5_of xl D kA a V hs sl sv pd sg kt ln td i 1 (by omega) (by omega)) (cwV 2 hts gX5_move_X5_of rfl rfl rfl (by decide +kernel) ⟨Nat.le_of_ble_eq_true rfl, Nat.le_of_ble_eq_true rfl⟩) hP rfl rfl rfl rfl hl.1 rfl (Nat.le_of_ble_eq_true rfl) dX5_move_22 ⟨Nat.le_of_ble_eq_true rfl, Nat.le_of_ble_eq_true rfl⟩ ?_
      refine xIfNe C (tgt := 37) (by have := hW i (by omega); omega) dX5_move_25 (by decide) (fun h_25 => ?_) (fun h_25 => ?_)
      · skip
        have g_25 : ¬ TV V i 1 = 0 := by omega
        skip
        refine lv_aload_n hx hb dX5_move_37 rfl (lv_at hl 0 rfl) ?_
        refine lv_iload_n hx hb dX5_move_38 rfl (lv_at hl 1 rfl) ?_
        refine lv_iconst (v := nI 0) hx hb dX5_move_39 (by decide) ?_
        refine xSro C hN (As := [.int (nI i), .int (nI 0)]) (rest := [.ref (a 0)]) (c_X5_at xl D kA i 0) (va_cwS 2 hts gX5_move_X5_at rfl rfl rfl (by decide +kernel) ⟨Nat.le_of_ble_eq_true rfl, Nat.le_of_ble_eq_true rfl⟩) (hP.sub (ws' := []) [] rfl) rfl hl.1 rfl (Nat.le_of_ble_eq_true rfl) dX5_move_40 ⟨Nat.le_of_ble_eq_true rfl, Nat.le_of_ble_eq_true rfl⟩ ?_
        refine lv_iload_n hx hb dX5_move_43 rfl (lv_at hl 2 rfl) ?_
        refine xWWi hS (va_runV (As := [.int (nI (9 + 5 * i + 0)), .int (nI l1)]) (rest := []) C (c_X5_lays xl D kA a V hs sl sv pd sg kt ln td (9 + 5 * i + 0) (l1) (by omega) HH hH hk A) (cwV 2 hts gX5_move_X5_lays rfl rfl rfl (by decide +kernel) ⟨Nat.le_of_ble_eq_true rfl, Nat.le_of_ble_eq_true rfl⟩) (xPreVw (q0 := 0) hN hP hD (xAll hS hA) rfl rfl rfl) rfl rfl hl.1 rfl (lv_room (Nat.le_of_ble_eq_true rfl)) dX5_move_44 ⟨Nat.le_of_ble_eq_true rfl, Nat.le_of_ble_eq_true rfl⟩) (fun r_44 u_44 H locs hq_44 hP hD hS => ?_)
        obtain ⟨rfl, h_r, rfl, hh_r⟩ := hq_44
        have hP : va_P D vwCl [((a 0), .inr (5, [.ref (a 1), .ref (a 2), .int (nI (pushN kt)), .ref (a 3), .ref (a 4), .ref (a 5), .int (nI ln), .ref (a 6), .int (nI td)])), ((a 1), .inl (kA 0, 169, .inl (vI (updN V (9 + 5 * i + 0) l1)))), ((a 2), .inl (kA 0, 1014, .inl (h_r))), ((a 3), .inl (kA 0, 338, .inl (sl))), ((a 4), .inl (kA 2, 2, .inl (sv))), ((a 5), .inl (kA 0, 60, .inl (pd))), ((a 6), .inl (kA 0, 5, .inl (sg)))] H := hP
        have hD : va_D A [((a 0), .inr (5, [.ref (a 1), .ref (a 2), .int (nI (pushN kt)), .ref (a 3), .ref (a 4), .ref (a 5), .int (nI ln), .ref (a 6), .int (nI td)])), ((a 1), .inl (kA 0, 169, .inl (vI (updN V (9 + 5 * i + 0) l1)))), ((a 2), .inl (kA 0, 1014, .inl (h_r))), ((a 3), .inl (kA 0, 338, .inl (sl))), ((a 4), .inl (kA 2, 2, .inl (sv))), ((a 5), .inl (kA 0, 60, .inl (pd))), ((a 6), .inl (kA 0, 5, .inl (sg)))] := hD
        exact xRetI hx hb hret (v := nI (V (9 + 5 * i + 0))) (retS (S2 := ((updN V (9 + 5 * i + 0) l1), ln, P, (pushN kt), (pushH HH kt V), HB, LL)) (by simp [opMove, h_5, h_14, t_i, t_l1, h_25, g_25]) ⟨h_r, sl, sv, pd, sg, td, rfl, hh_r, hpd, hsv⟩) hP hD hS dX5_move_47 hlocks
      · skip
        refine lv_iload_n hx hb dX5_move_28 rfl (lv_at hl 2 rfl) ?_
        refine xIfLe C (tgt := 37) (by omega) dX5_move_29 (by decide) (fun h_29 => ?_) (fun h_29 => ?_)
        · skip
          refine lv_aload_n hx hb dX5_move_37 rfl (lv_at hl 0 rfl) ?_
          refine lv_iload_n hx hb dX5_move_38 rfl (lv_at hl 1 rfl) ?_
          refine lv_iconst (v := nI 0) hx hb dX5_move_39 (by decide) ?_
          refine xSro C hN (As := [.int (nI i), .int (nI 0)]) (rest := [.ref (a 0)]) (c_X5_at xl D kA i 0) (va_cwS 2 hts gX5_move_X5_at rfl rfl rfl (by decide +kernel) ⟨Nat.le_of_ble_eq_true rfl, Nat.le_of_ble_eq_true rfl⟩) (hP.sub (ws' := []) [] rfl) rfl hl.1 rfl (Nat.le_of_ble_eq_true rfl) dX5_move_40 ⟨Nat.le_of_ble_eq_true rfl, Nat.le_of_ble_eq_true rfl⟩ ?_
          refine lv_iload_n hx hb dX5_move_43 rfl (lv_at hl 2 rfl) ?_
          refine xWWi hS (va_runV (As := [.int (nI (9 + 5 * i + 0)), .int (nI l1)]) (rest := []) C (c_X5_lays xl D kA a V hs sl sv pd sg kt ln td (9 + 5 * i + 0) (l1) (by omega) HH hH hk A) (cwV 2 hts gX5_move_X5_lays rfl rfl rfl (by decide +kernel) ⟨Nat.le_of_ble_eq_true rfl, Nat.le_of_ble_eq_true rfl⟩) (xPreVw (q0 := 0) hN hP hD (xAll hS hA) rfl rfl rfl) rfl rfl hl.1 rfl (lv_room (Nat.le_of_ble_eq_true rfl)) dX5_move_44 ⟨Nat.le_of_ble_eq_true rfl, Nat.le_of_ble_eq_true rfl⟩) (fun r_44 u_44 H locs hq_44 hP hD hS => ?_)
          obtain ⟨rfl, h_r, rfl, hh_r⟩ := hq_44
          have hP : va_P D vwCl [((a 0), .inr (5, [.ref (a 1), .ref (a 2), .int (nI (pushN kt)), .ref (a 3), .ref (a 4), .ref (a 5), .int (nI ln), .ref (a 6), .int (nI td)])), ((a 1), .inl (kA 0, 169, .inl (vI (updN V (9 + 5 * i + 0) l1)))), ((a 2), .inl (kA 0, 1014, .inl (h_r))), ((a 3), .inl (kA 0, 338, .inl (sl))), ((a 4), .inl (kA 2, 2, .inl (sv))), ((a 5), .inl (kA 0, 60, .inl (pd))), ((a 6), .inl (kA 0, 5, .inl (sg)))] H := hP
          have hD : va_D A [((a 0), .inr (5, [.ref (a 1), .ref (a 2), .int (nI (pushN kt)), .ref (a 3), .ref (a 4), .ref (a 5), .int (nI ln), .ref (a 6), .int (nI td)])), ((a 1), .inl (kA 0, 169, .inl (vI (updN V (9 + 5 * i + 0) l1)))), ((a 2), .inl (kA 0, 1014, .inl (h_r))), ((a 3), .inl (kA 0, 338, .inl (sl))), ((a 4), .inl (kA 2, 2, .inl (sv))), ((a 5), .inl (kA 0, 60, .inl (pd))), ((a 6), .inl (kA 0, 5, .inl (sg)))] := hD
          exact xRetI hx hb hret (v := nI (V (9 + 5 * i + 0))) (retS (S2 := ((updN V (9 + 5 * i + 0) l1), ln, P, (pushN kt), (pushH HH kt V), HB, LL)) (by simp [opMove, h_5, h_14, t_i, t_l1, h_25, h_29]) ⟨h_r, sl, sv, pd, sg, td, rfl, hh_r, hpd, hsv⟩) hP hD hS dX5_move_47 hlocks
        · skip
          refine lv_bipush (v := (-5)) hx hb dX5_move_32 (by decide) ?_
          refine lv_goto (tgt := 47) hx hb dX5_move_34 (by decide) ?_
          exact xRetI hx hb hret (v := (-5)) (retS (S2 := (V, ln, P, kt, HH, HB, LL)) (by simp [opMove, h_5, h_14, t_i, t_l1, h_25, h_29]) ⟨hs, sl, sv, pd, sg, td, rfl, hH, hpd, hsv⟩) hP hD hS dX5_move_47 hlocks
    · skip
      refine lv_iconst (v := (-1)) hx hb dX5_move_17 (by decide) ?_
      exact xRetI hx hb hret (v := (-1)) (retS (S2 := (V, ln, P, kt, HH, HB, LL)) (by simp [opMove, h_5, h_14]) ⟨hs, sl, sv, pd, sg, td, rfl, hH, hpd, hsv⟩) hP hD hS dX5_move_18 hlocks

set_option maxHeartbeats 8000000 in
set_option maxRecDepth 100000 in
theorem c_X5_join (xl : Launch) (D : va_G) (kA : Nat → ClassId) (a : Nat → Nat) (V : Nat → Nat) (hs sl sv pd sg : Nat → Int32) (kt ln td : Nat) (P : Nat → Nat) (HH : Nat → Nat → Nat) (HB : Nat → Bool) (LL : Nat → Nat → Nat) (hI : InvS (V, ln, P, kt, HH, HB, LL)) (hH : relH hs kt HH) (hpd : relP pd ln P) (hsv : relS sv sl HB LL) (c y : Int32) (A : Nat → Prop) : Met xl yX5_join wsX5_join { frames := 1, cells := 0, slots := 0, locals := 22 } (va_Pc [.ref (a 0), .int c, .int y] (xPw D kA A [((a 0), .inr (5, [.ref (a 1), .ref (a 2), .int (nI kt), .ref (a 3), .ref (a 4), .ref (a 5), .int (nI ln), .ref (a 6), .int (nI td)])), ((a 1), .inl (kA 0, 169, .inl (vI V))), ((a 2), .inl (kA 0, 1014, .inl (hs))), ((a 3), .inl (kA 0, 338, .inl (sl))), ((a 4), .inl (kA 2, 2, .inl (sv))), ((a 5), .inl (kA 0, 60, .inl (pd))), ((a 6), .inl (kA 0, 5, .inl (sg)))])) (xQi D A (fun r u => r = (opJoin (V, ln, P, kt, HH, HB, LL) c y).1 ∧ ModR kA a (opJoin (V, ln, P, kt, HH, HB, LL) c y).2 u)) 0 0 A := by
  refine Met.ofW (cc := cX5_join) (maxL := 4) (ret := (some .int)) (by decide) rfl ?_
  intro xp xe xs xm args xbe xme xc s₁ B hml hv
  obtain ⟨rfl, hP, hN, hD, hA⟩ := hv
  have hret := B.returns
  have C : CallFix xp xm xc cX5_join 4 xs ([.ref (a 0), .int c, .int y] : List Value).toArray wsX5_join RX5 := ⟨B.exec, B.bytes, hml, findClass_of_methodNamed B.named, atoms_spec (ws := wsX5_join) B.pre⟩
  have hlocks := B.notSynchronized
  obtain ⟨hx, hb, _, hown, hts⟩ := id C
  have hS : va_S A xs.heap xs.heap [] := va_S.rf
  have hl := lv_entry ([.ref (a 0), .int c, .int y]) (n := 4) (Nat.le_of_ble_eq_true rfl)
  rw [lg_entry_eq]
  generalize (lg_sl ([.ref (a 0), .int c, .int y]) ++ List.replicate (4 - (lg_sl ([.ref (a 0), .int c, .int y])).length) Slot.unset).toArray = ls at hl ⊢
  have hl : lv_has ls 4 [(0, .ref (a 0)), (1, .int c), (2, .int y)] := hl
  obtain ⟨⟨hV, hW, hM, hG⟩, hm, hwP, hk, hIH, hIL⟩ := hI
  refine lv_iload_n hx hb dX5_join_0 rfl (lv_at hl 1 rfl) ?_
  refine lv_iconst (v := nI 0) hx hb dX5_join_1 (by decide) ?_
  refine lv_iconst (v := nI 4) hx hb dX5_join_2 (by decide) ?_
  refine xSro C hN (As := [.int c, .int (nI 0), .int (nI 4)]) (rest := []) (c_X5_in xl D kA c (nI 0) (nI 4)) (va_cwS 3 hts gX5_join_X5_in rfl rfl rfl (by decide +kernel) ⟨Nat.le_of_ble_eq_true rfl, Nat.le_of_ble_eq_true rfl⟩) (hP.sub (ws' := []) [] rfl) rfl hl.1 rfl (Nat.le_of_ble_eq_true rfl) dX5_join_3 ⟨Nat.le_of_ble_eq_true rfl, Nat.le_of_ble_eq_true rfl⟩ ?_
  refine xIfNeB C (tgt := 11) dX5_join_6 (by decide) (fun h_6 => ?_) (fun h_6 => ?_)
  · skip
    refine lv_iload_n hx hb dX5_join_11 rfl (lv_at hl 2 rfl) ?_
    refine lv_iconst (v := nI 0) hx hb dX5_join_12 (by decide) ?_
    refine lv_bipush (v := nI 9) hx hb dX5_join_13 (by decide) ?_
    refine xSro C hN (As := [.int y, .int (nI 0), .int (nI 9)]) (rest := []) (c_X5_in xl D kA y (nI 0) (nI 9)) (va_cwS 3 hts gX5_join_X5_in rfl rfl rfl (by decide +kernel) ⟨Nat.le_of_ble_eq_true rfl, Nat.le_of_ble_eq_true rfl⟩) (hP.sub (ws' := []) [] rfl) rfl hl.1 rfl (Nat.le_of_ble_eq_true rfl) dX5_join_15 ⟨Nat.le_of_ble_eq_true rfl, Nat.le_of_ble_eq_true rfl⟩ ?_
    refine xIfNeB C (tgt := 24) dX5_join_18 (by decide) (fun h_18 => ?_) (fun h_18 => ?_)
    · skip
      obtain ⟨c1, a_c1, b_c1, e_c1, t_c1⟩ := inR_ex h_6 (by decide) (by decide)
      rw [e_c1] at hl
      skip
      obtain ⟨r1, a_r1, b_r1, e_r1, t_r1⟩ := inR_ex h_18 (by decide) (by decide)
      rw [e_r1] at hl
      skip
      refine lv_aload_n hx hb dX5_join_24 rfl (lv_at hl 0 rfl) ?_
      refine xGet C hN hP 0 (j := 0) rfl rfl iX5_join_X5 (by decide) kX5_join_7 rfl rfl dX5_join_25 ?_
      refine lv_iconst (v := nI 1) hx hb dX5_join_28 (by decide) ?_
      refine xIald C hN hP 1 (j := 1) (v := nI (V 1)) rfl (by omega) (by decide) (rfl) dX5_join_29 ?_
      refine lv_bipush (v := nI 10) hx hb dX5_join_30 (by decide) ?_
      refine xIcmpNe C (tgt := 38) (by omega) (by decide) dX5_join_32 (by decide) (fun h_32 => ?_) (fun h_32 => ?_)
      · skip
        refine lv_aload_n hx hb dX5_join_38 rfl (lv_at hl 0 rfl) ?_
        refine xWWv hS (va_runV (As := []) (rest := []) C (c_X5_record xl D kA a V hs sl sv pd sg kt ln td HH hH hk A) (cwV 0 hts gX5_join_X5_record rfl rfl rfl (by decide +kernel) ⟨Nat.le_of_ble_eq_true rfl, Nat.le_of_ble_eq_true rfl⟩) (xPreVw (q0 := 0) hN hP hD (xAll hS hA) rfl rfl rfl) rfl rfl hl.1 rfl (lv_room (Nat.le_of_ble_eq_true rfl)) dX5_join_39 ⟨Nat.le_of_ble_eq_true rfl, Nat.le_of_ble_eq_true rfl⟩) (fun u_39 H locs hq_39 hP hD hS => ?_)
        obtain ⟨h_r, rfl, hh_r⟩ := hq_39
        have hP : va_P D vwCl [((a 0), .inr (5, [.ref (a 1), .ref (a 2), .int (nI (pushN kt)), .ref (a 3), .ref (a 4), .ref (a 5), .int (nI ln), .ref (a 6), .int (nI td)])), ((a 1), .inl (kA 0, 169, .inl (vI V))), ((a 2), .inl (kA 0, 1014, .inl (h_r))), ((a 3), .inl (kA 0, 338, .inl (sl))), ((a 4), .inl (kA 2, 2, .inl (sv))), ((a 5), .inl (kA 0, 60, .inl (pd))), ((a 6), .inl (kA 0, 5, .inl (sg)))] H := hP
        have hD : va_D A [((a 0), .inr (5, [.ref (a 1), .ref (a 2), .int (nI (pushN kt)), .ref (a 3), .ref (a 4), .ref (a 5), .int (nI ln), .ref (a 6), .int (nI td)])), ((a 1), .inl (kA 0, 169, .inl (vI V))), ((a 2), .inl (kA 0, 1014, .inl (h_r))), ((a 3), .inl (kA 0, 338, .inl (sl))), ((a 4), .inl (kA 2, 2, .inl (sv))), ((a 5), .inl (kA 0, 60, .inl (pd))), ((a 6), .inl (kA 0, 5, .inl (sg)))] := hD
        refine lv_aload_n hx hb dX5_join_42 rfl (lv_at hl 0 rfl) ?_
        refine xGet C hN hP 0 (j := 0) rfl rfl iX5_join_X5 (by decide) kX5_join_7 rfl rfl dX5_join_43 ?_
        refine lv_iconst (v := nI 1) hx hb dX5_join_46 (by decide) ?_
        refine xIald C hN hP 1 (j := 1) (v := nI (V 1)) rfl (by omega) (by decide) (rfl) dX5_join_47 ?_
        refine lv_istore_n (lv' := [(3, .int (nI (V 1))), (0, .ref (a 0)), (1, .int (nI c1)), (2, .int (nI r1))]) hx hb dX5_join_48 rfl hl (by decide) rfl (fun ls hl => ?_)
        refine lv_aload_n hx hb dX5_join_49 rfl (lv_at hl 1 rfl) ?_
        refine xGet C hN hP 0 (j := 0) rfl rfl iX5_join_X5 (by decide) kX5_join_7 rfl rfl dX5_join_50 ?_
        refine lv_iconst (v := nI 1) hx hb dX5_join_53 (by decide) ?_
        refine lv_dup2_11 hx hb dX5_join_54 rfl rfl ?_
        refine xIald C hN hP 1 (j := 1) (v := nI (V 1)) rfl (by omega) (by decide) (rfl) dX5_join_55 ?_
        refine lv_iconst (v := nI 1) hx hb dX5_join_56 (by decide) ?_
        refine xIadd C dX5_join_57 ?_
        refine xIast C hN hP hD hS 1 (j := 1) rfl (by omega) (by decide) dX5_join_58 (fun H locs hP hD hS => ?_)
        rw [show upd (vI V) (1) (nI ((V 1) + 1)) = vI (updN V (1) ((V 1) + 1)) from upd_vI _ _ _] at hP hD
        have hP : va_P D vwCl [((a 0), .inr (5, [.ref (a 1), .ref (a 2), .int (nI (pushN kt)), .ref (a 3), .ref (a 4), .ref (a 5), .int (nI ln), .ref (a 6), .int (nI td)])), ((a 1), .inl (kA 0, 169, .inl (vI (updN V (1) ((V 1) + 1))))), ((a 2), .inl (kA 0, 1014, .inl (h_r))), ((a 3), .inl (kA 0, 338, .inl (sl))), ((a 4), .inl (kA 2, 2, .inl (sv))), ((a 5), .inl (kA 0, 60, .inl (pd))), ((a 6), .inl (kA 0, 5, .inl (sg)))] H := hP
        have hD : va_D A [((a 0), .inr (5, [.ref (a 1), .ref (a 2), .int (nI (pushN kt)), .ref (a 3), .ref (a 4), .ref (a 5), .int (nI ln), .ref (a 6), .int (nI td)])), ((a 1), .inl (kA 0, 169, .inl (vI (updN V (1) ((V 1) + 1))))), ((a 2), .inl (kA 0, 1014, .inl (h_r))), ((a 3), .inl (kA 0, 338, .inl (sl))), ((a 4), .inl (kA 2, 2, .inl (sv))), ((a 5), .inl (kA 0, 60, .inl (pd))), ((a 6), .inl (kA 0, 5, .inl (sg)))] := hD
        refine lv_aload_n hx hb dX5_join_59 rfl (lv_at hl 1 rfl) ?_
        refine xGet C hN hP 0 (j := 0) rfl rfl iX5_join_X5 (by decide) kX5_join_7 rfl rfl dX5_join_60 ?_
        refine lv_iload_n hx hb dX5_join_63 rfl (lv_at hl 0 rfl) ?_
        refine lv_iconst (v := nI 0) hx hb dX5_join_64 (by decide) ?_
        refine xSro C hN (As := [.int (nI (V 1)), .int (nI 0)]) (rest := [.ref (a 1)]) (c_X5_ofGuild xl D kA (V 1) 0) (va_cwS 2 hts gX5_join_X5_ofGuild rfl rfl rfl (by decide +kernel) ⟨Nat.le_of_ble_eq_true rfl, Nat.le_of_ble_eq_true rfl⟩) (hP.sub (ws' := []) [] rfl) rfl hl.1 rfl (Nat.le_of_ble_eq_true rfl) dX5_join_65 ⟨Nat.le_of_ble_eq_true rfl, Nat.le_of_ble_eq_true rfl⟩ ?_
        refine lv_iload_n hx hb dX5_join_68 rfl (lv_at hl 2 rfl) ?_
        refine xIast C hN hP hD hS 1 (j := 129 + 4 * (V 1) + 0) rfl (by omega) (by decide) dX5_join_69 (fun H locs hP hD hS => ?_)
        rw [show upd (vI (updN V (1) ((V 1) + 1))) (129 + 4 * (V 1) + 0) (nI c1) = vI (updN (updN V (1) ((V 1) + 1)) (129 + 4 * (V 1) + 0) c1) from upd_vI _ _ _] at hP hD
        have hP : va_P D vwCl [((a 0), .inr (5, [.ref (a 1), .ref (a 2), .int (nI (pushN kt)), .ref (a 3), .ref (a 4), .ref (a 5), .int (nI ln), .ref (a 6), .int (nI td)])), ((a 1), .inl (kA 0, 169, .inl (vI (updN (updN V (1) ((V 1) + 1)) (129 + 4 * (V 1) + 0) c1)))), ((a 2), .inl (kA 0, 1014, .inl (h_r))), ((a 3), .inl (kA 0, 338, .inl (sl))), ((a 4), .inl (kA 2, 2, .inl (sv))), ((a 5), .inl (kA 0, 60, .inl (pd))), ((a 6), .inl (kA 0, 5, .inl (sg)))] H := hP
        have hD : va_D A [((a 0), .inr (5, [.ref (a 1), .ref (a 2), .int (nI (pushN kt)), .ref (a 3), .ref (a 4), .ref (a 5), .int (nI ln), .ref (a 6), .int (nI td)])), ((a 1), .inl (kA 0, 169, .inl (vI (updN (updN V (1) ((V 1) + 1)) (129 + 4 * (V 1) + 0) c1)))), ((a 2), .inl (kA 0, 1014, .inl (h_r))), ((a 3), .inl (kA 0, 338, .inl (sl))), ((a 4), .inl (kA 2, 2, .inl (sv))), ((a 5), .inl (kA 0, 60, .inl (pd))), ((a 6), .inl (kA 0, 5, .inl (sg)))] := hD
        refine lv_aload_n hx hb dX5_join_70 rfl (lv_at hl 1 rfl) ?_
        refine xGet C hN hP 0 (j := 0) rfl rfl iX5_join_X5 (by decide) kX5_join_7 rfl rfl dX5_join_71 ?_
        refine lv_iload_n hx hb dX5_join_74 rfl (lv_at hl 0 rfl) ?_
        refine lv_iconst (v := nI 1) hx hb dX5_join_75 (by decide) ?_
        refine xSro C hN (As := [.int (nI (V 1)), .int (nI 1)]) (rest := [.ref (a 1)]) (c_X5_ofGuild xl D kA (V 1) 1) (va_cwS 2 hts gX5_join_X5_ofGuild rfl rfl rfl (by decide +kernel) ⟨Nat.le_of_ble_eq_true rfl, Nat.le_of_ble_eq_true rfl⟩) (hP.sub (ws' := []) [] rfl) rfl hl.1 rfl (Nat.le_of_ble_eq_true rfl) dX5_join_76 ⟨Nat.le_of_ble_eq_true rfl, Nat.le_of_ble_eq_true rfl⟩ ?_
        refine lv_iload_n hx hb dX5_join_79 rfl (lv_at hl 3 rfl) ?_
        refine xIast C hN hP hD hS 1 (j := 129 + 4 * (V 1) + 1) rfl (by omega) (by decide) dX5_join_80 (fun H locs hP hD hS => ?_)
        rw [show upd (vI (updN (updN V (1) ((V 1) + 1)) (129 + 4 * (V 1) + 0) c1)) (129 + 4 * (V 1) + 1) (nI r1) = vI (updN (updN (updN V (1) ((V 1) + 1)) (129 + 4 * (V 1) + 0) c1) (129 + 4 * (V 1) + 1) r1) from upd_vI _ _ _] at hP hD
        have hP : va_P D vwCl [((a 0), .inr (5, [.ref (a 1), .ref (a 2), .int (nI (pushN kt)), .ref (a 3), .ref (a 4), .ref (a 5), .int (nI ln), .ref (a 6), .int (nI td)])), ((a 1), .inl (kA 0, 169, .inl (vI (updN (updN (updN V (1) ((V 1) + 1)) (129 + 4 * (V 1) + 0) c1) (129 + 4 * (V 1) + 1) r1)))), ((a 2), .inl (kA 0, 1014, .inl (h_r))), ((a 3), .inl (kA 0, 338, .inl (sl))), ((a 4), .inl (kA 2, 2, .inl (sv))), ((a 5), .inl (kA 0, 60, .inl (pd))), ((a 6), .inl (kA 0, 5, .inl (sg)))] H := hP
        have hD : va_D A [((a 0), .inr (5, [.ref (a 1), .ref (a 2), .int (nI (pushN kt)), .ref (a 3), .ref (a 4), .ref (a 5), .int (nI ln), .ref (a 6), .int (nI td)])), ((a 1), .inl (kA 0, 169, .inl (vI (updN (updN (updN V (1) ((V 1) + 1)) (129 + 4 * (V 1) + 0) c1) (129 + 4 * (V 1) + 1) r1)))), ((a 2), .inl (kA 0, 1014, .inl (h_r))), ((a 3), .inl (kA 0, 338, .inl (sl))), ((a 4), .inl (kA 2, 2, .inl (sv))), ((a 5), .inl (kA 0, 60, .inl (pd))), ((a 6), .inl (kA 0, 5, .inl (sg)))] := hD
        refine lv_aload_n hx hb dX5_join_81 rfl (lv_at hl 1 rfl) ?_
        refine xGet C hN hP 0 (j := 0) rfl rfl iX5_join_X5 (by decide) kX5_join_7 rfl rfl dX5_join_82 ?_
        refine lv_iload_n hx hb dX5_join_85 rfl (lv_at hl 0 rfl) ?_
        refine lv_iconst (v := nI 2) hx hb dX5_join_86 (by decide) ?_
        refine xSro C hN (As := [.int (nI (V 1)), .int (nI 2)]) (rest := [.ref (a 1)]) (c_X5_ofGuild xl D kA (V 1) 2) (va_cwS 2 hts gX5_join_X5_ofGuild rfl rfl rfl (by decide +kernel) ⟨Nat.le_of_ble_eq_true rfl, Nat.le_of_ble_eq_true rfl⟩) (hP.sub (ws' := []) [] rfl) rfl hl.1 rfl (Nat.le_of_ble_eq_true rfl) dX5_join_87 ⟨Nat.le_of_ble_eq_true rfl, Nat.le_of_ble_eq_true rfl⟩ ?_
        refine lv_iconst (v := nI 0) hx hb dX5_join_90 (by decide) ?_
        refine xIast C hN hP hD hS 1 (j := 129 + 4 * (V 1) + 2) rfl (by omega) (by decide) dX5_join_91 (fun H locs hP hD hS => ?_)
        rw [show upd (vI (updN (updN (updN V (1) ((V 1) + 1)) (129 + 4 * (V 1) + 0) c1) (129 + 4 * (V 1) + 1) r1)) (129 + 4 * (V 1) + 2) (nI 0) = vI (updN (updN (updN (updN V (1) ((V 1) + 1)) (129 + 4 * (V 1) + 0) c1) (129 + 4 * (V 1) + 1) r1) (129 + 4 * (V 1) + 2) 0) from upd_vI _ _ _] at hP hD
        have hP : va_P D vwCl [((a 0), .inr (5, [.ref (a 1), .ref (a 2), .int (nI (pushN kt)), .ref (a 3), .ref (a 4), .ref (a 5), .int (nI ln), .ref (a 6), .int (nI td)])), ((a 1), .inl (kA 0, 169, .inl (vI (updN (updN (updN (updN V (1) ((V 1) + 1)) (129 + 4 * (V 1) + 0) c1) (129 + 4 * (V 1) + 1) r1) (129 + 4 * (V 1) + 2) 0)))), ((a 2), .inl (kA 0, 1014, .inl (h_r))), ((a 3), .inl (kA 0, 338, .inl (sl))), ((a 4), .inl (kA 2, 2, .inl (sv))), ((a 5), .inl (kA 0, 60, .inl (pd))), ((a 6), .inl (kA 0, 5, .inl (sg)))] H := hP
        have hD : va_D A [((a 0), .inr (5, [.ref (a 1), .ref (a 2), .int (nI (pushN kt)), .ref (a 3), .ref (a 4), .ref (a 5), .int (nI ln), .ref (a 6), .int (nI td)])), ((a 1), .inl (kA 0, 169, .inl (vI (updN (updN (updN (updN V (1) ((V 1) + 1)) (129 + 4 * (V 1) + 0) c1) (129 + 4 * (V 1) + 1) r1) (129 + 4 * (V 1) + 2) 0)))), ((a 2), .inl (kA 0, 1014, .inl (h_r))), ((a 3), .inl (kA 0, 338, .inl (sl))), ((a 4), .inl (kA 2, 2, .inl (sv))), ((a 5), .inl (kA 0, 60, .inl (pd))), ((a 6), .inl (kA 0, 5, .inl (sg)))] := hD
        refine lv_aload_n hx hb dX5_join_92 rfl (lv_at hl 1 rfl) ?_
        refine xGet C hN hP 0 (j := 0) rfl rfl iX5_join_X5 (by decide) kX5_join_7 rfl rfl dX5_join_93 ?_
        refine lv_iload_n hx hb dX5_join_96 rfl (lv_at hl 0 rfl) ?_
        refine lv_iconst (v := nI 3) hx hb dX5_join_97 (by decide) ?_
        refine xSro C hN (As := [.int (nI (V 1)), .int (nI 3)]) (rest := [.ref (a 1)]) (c_X5_ofGuild xl D kA (V 1) 3) (va_cwS 2 hts gX5_join_X5_ofGuild rfl rfl rfl (by decide +kernel) ⟨Nat.le_of_ble_eq_true rfl, Nat.le_of_ble_eq_true rfl⟩) (hP.sub (ws' := []) [] rfl) rfl hl.1 rfl (Nat.le_of_ble_eq_true rfl) dX5_join_98 ⟨Nat.le_of_ble_eq_true rfl, Nat.le_of_ble_eq_true rfl⟩ ?_
        refine lv_iconst (v := nI 0) hx hb dX5_join_101 (by decide) ?_
        refine xIast C hN hP hD hS 1 (j := 129 + 4 * (V 1) + 3) rfl (by omega) (by decide) dX5_join_102 (fun H locs hP hD hS => ?_)
        rw [show upd (vI (updN (updN (updN (updN V (1) ((V 1) + 1)) (129 + 4 * (V 1) + 0) c1) (129 + 4 * (V 1) + 1) r1) (129 + 4 * (V 1) + 2) 0)) (129 + 4 * (V 1) + 3) (nI 0) = vI (updN (updN (updN (updN (updN V (1) ((V 1) + 1)) (129 + 4 * (V 1) + 0) c1) (129 + 4 * (V 1) + 1) r1) (129 + 4 * (V 1) + 2) 0) (129 + 4 * (V 1) + 3) 0) from upd_vI _ _ _] at hP hD
        have hP : va_P D vwCl [((a 0), .inr (5, [.ref (a 1), .ref (a 2), .int (nI (pushN kt)), .ref (a 3), .ref (a 4), .ref (a 5), .int (nI ln), .ref (a 6), .int (nI td)])), ((a 1), .inl (kA 0, 169, .inl (vI (updN (updN (updN (updN (updN V (1) ((V 1) + 1)) (129 + 4 * (V 1) + 0) c1) (129 + 4 * (V 1) + 1) r1) (129 + 4 * (V 1) + 2) 0) (129 + 4 * (V 1) + 3) 0)))), ((a 2), .inl (kA 0, 1014, .inl (h_r))), ((a 3), .inl (kA 0, 338, .inl (sl))), ((a 4), .inl (kA 2, 2, .inl (sv))), ((a 5), .inl (kA 0, 60, .inl (pd))), ((a 6), .inl (kA 0, 5, .inl (sg)))] H := hP
        have hD : va_D A [((a 0), .inr (5, [.ref (a 1), .ref (a 2), .int (nI (pushN kt)), .ref (a 3), .ref (a 4), .ref (a 5), .int (nI ln), .ref (a 6), .int (nI td)])), ((a 1), .inl (kA 0, 169, .inl (vI (updN (updN (updN (updN (updN V (1) ((V 1) + 1)) (129 + 4 * (V 1) + 0) c1) (129 + 4 * (V 1) + 1) r1) (129 + 4 * (V 1) + 2) 0) (129 + 4 * (V 1) + 3) 0)))), ((a 2), .inl (kA 0, 1014, .inl (h_r))), ((a 3), .inl (kA 0, 338, .inl (sl))), ((a 4), .inl (kA 2, 2, .inl (sv))), ((a 5), .inl (kA 0, 60, .inl (pd))), ((a 6), .inl (kA 0, 5, .inl (sg)))] := hD
        refine lv_iload_n hx hb dX5_join_103 rfl (lv_at hl 0 rfl) ?_
        exact xRetI hx hb hret (v := nI (V 1)) (retS (S2 := ((jnV V c1 r1), ln, P, (pushN kt), (pushH HH kt V), HB, LL)) (by simp [opJoin, h_6, h_18, t_c1, t_r1, h_32]) ⟨h_r, sl, sv, pd, sg, td, rfl, hh_r, hpd, hsv⟩) hP hD hS dX5_join_104 hlocks
      · skip
        refine lv_bipush (v := (-4)) hx hb dX5_join_35 (by decide) ?_
        exact xRetI hx hb hret (v := (-4)) (retS (S2 := (V, ln, P, kt, HH, HB, LL)) (by simp [opJoin, h_6, h_18, t_c1, t_r1, h_32]) ⟨hs, sl, sv, pd, sg, td, rfl, hH, hpd, hsv⟩) hP hD hS dX5_join_37 hlocks
    · skip
      refine lv_bipush (v := (-2)) hx hb dX5_join_21 (by decide) ?_
      exact xRetI hx hb hret (v := (-2)) (retS (S2 := (V, ln, P, kt, HH, HB, LL)) (by simp [opJoin, h_6, h_18]) ⟨hs, sl, sv, pd, sg, td, rfl, hH, hpd, hsv⟩) hP hD hS dX5_join_23 hlocks
  · skip
    refine lv_iconst (v := (-1)) hx hb dX5_join_9 (by decide) ?_
    exact xRetI hx hb hret (v := (-1)) (retS (S2 := (V, ln, P, kt, HH, HB, LL)) (by simp [opJoin, h_6]) ⟨hs, sl, sv, pd, sg, td, rfl, hH, hpd, hsv⟩) hP hD hS dX5_join_10 hlocks

set_option maxHeartbeats 8000000 in
set_option maxRecDepth 100000 in
theorem c_X5_leave (xl : Launch) (D : va_G) (kA : Nat → ClassId) (a : Nat → Nat) (V : Nat → Nat) (hs sl sv pd sg : Nat → Int32) (kt ln td : Nat) (P : Nat → Nat) (HH : Nat → Nat → Nat) (HB : Nat → Bool) (LL : Nat → Nat → Nat) (hI : InvS (V, ln, P, kt, HH, HB, LL)) (hH : relH hs kt HH) (hpd : relP pd ln P) (hsv : relS sv sl HB LL) (x : Int32) (A : Nat → Prop) : Met xl yX5_leave wsX5_leave { frames := 2, cells := 0, slots := 0, locals := 43 } (va_Pc [.ref (a 0), .int x] (xPw D kA A [((a 0), .inr (5, [.ref (a 1), .ref (a 2), .int (nI kt), .ref (a 3), .ref (a 4), .ref (a 5), .int (nI ln), .ref (a 6), .int (nI td)])), ((a 1), .inl (kA 0, 169, .inl (vI V))), ((a 2), .inl (kA 0, 1014, .inl (hs))), ((a 3), .inl (kA 0, 338, .inl (sl))), ((a 4), .inl (kA 2, 2, .inl (sv))), ((a 5), .inl (kA 0, 60, .inl (pd))), ((a 6), .inl (kA 0, 5, .inl (sg)))])) (xQi D A (fun r u => r = (opLeave (V, ln, P, kt, HH, HB, LL) x).1 ∧ ModR kA a (opLeave (V, ln, P, kt, HH, HB, LL) x).2 u)) 0 0 A := by
  refine Met.ofW (cc := cX5_leave) (maxL := 4) (ret := (some .int)) (by decide) rfl ?_
  intro xp xe xs xm args xbe xme xc s₁ B hml hv
  obtain ⟨rfl, hP, hN, hD, hA⟩ := hv
  have hret := B.returns
  have C : CallFix xp xm xc cX5_leave 4 xs ([.ref (a 0), .int x] : List Value).toArray wsX5_leave RX5 := ⟨B.exec, B.bytes, hml, findClass_of_methodNamed B.named, atoms_spec (ws := wsX5_leave) B.pre⟩
  have hlocks := B.notSynchronized
  obtain ⟨hx, hb, _, hown, hts⟩ := id C
  have hS : va_S A xs.heap xs.heap [] := va_S.rf
  have hl := lv_entry ([.ref (a 0), .int x]) (n := 4) (Nat.le_of_ble_eq_true rfl)
  rw [lg_entry_eq]
  generalize (lg_sl ([.ref (a 0), .int x]) ++ List.replicate (4 - (lg_sl ([.ref (a 0), .int x])).length) Slot.unset).toArray = ls at hl ⊢
  have hl : lv_has ls 4 [(0, .ref (a 0)), (1, .int x)] := hl
  obtain ⟨⟨hV, hW, hM, hG⟩, hm, hwP, hk, hIH, hIL⟩ := hI
  refine lv_aload_n hx hb dX5_leave_0 rfl (lv_at hl 0 rfl) ?_
  refine lv_iload_n hx hb dX5_leave_1 rfl (lv_at hl 1 rfl) ?_
  refine xVro C hN (As := [.int x]) (rest := []) (q0 := 0) (c_X5_isMember xl D kA a V hs sl sv pd sg kt ln td hV hW hM x) (cwV 1 hts gX5_leave_X5_isMember rfl rfl rfl (by decide +kernel) ⟨Nat.le_of_ble_eq_true rfl, Nat.le_of_ble_eq_true rfl⟩) hP rfl rfl rfl rfl hl.1 rfl (Nat.le_of_ble_eq_true rfl) dX5_leave_2 ⟨Nat.le_of_ble_eq_true rfl, Nat.le_of_ble_eq_true rfl⟩ ?_
  refine xIfNeB C (tgt := 10) dX5_leave_5 (by decide) (fun h_5 => ?_) (fun h_5 => ?_)
  · skip
    obtain ⟨i, a_i, e_i, t_i⟩ := hasB_ex h_5 (by omega)
    rw [e_i] at hl
    skip
    refine lv_aload_n hx hb dX5_leave_10 rfl (lv_at hl 0 rfl) ?_
    refine xWWv hS (va_runV (As := []) (rest := []) C (c_X5_record xl D kA a V hs sl sv pd sg kt ln td HH hH hk A) (cwV 0 hts gX5_leave_X5_record rfl rfl rfl (by decide +kernel) ⟨Nat.le_of_ble_eq_true rfl, Nat.le_of_ble_eq_true rfl⟩) (xPreVw (q0 := 0) hN hP hD (xAll hS hA) rfl rfl rfl) rfl rfl hl.1 rfl (lv_room (Nat.le_of_ble_eq_true rfl)) dX5_leave_11 ⟨Nat.le_of_ble_eq_true rfl, Nat.le_of_ble_eq_true rfl⟩) (fun u_11 H locs hq_11 hP hD hS => ?_)
    obtain ⟨h_r, rfl, hh_r⟩ := hq_11
    have hP : va_P D vwCl [((a 0), .inr (5, [.ref (a 1), .ref (a 2), .int (nI (pushN kt)), .ref (a 3), .ref (a 4), .ref (a 5), .int (nI ln), .ref (a 6), .int (nI td)])), ((a 1), .inl (kA 0, 169, .inl (vI V))), ((a 2), .inl (kA 0, 1014, .inl (h_r))), ((a 3), .inl (kA 0, 338, .inl (sl))), ((a 4), .inl (kA 2, 2, .inl (sv))), ((a 5), .inl (kA 0, 60, .inl (pd))), ((a 6), .inl (kA 0, 5, .inl (sg)))] H := hP
    have hD : va_D A [((a 0), .inr (5, [.ref (a 1), .ref (a 2), .int (nI (pushN kt)), .ref (a 3), .ref (a 4), .ref (a 5), .int (nI ln), .ref (a 6), .int (nI td)])), ((a 1), .inl (kA 0, 169, .inl (vI V))), ((a 2), .inl (kA 0, 1014, .inl (h_r))), ((a 3), .inl (kA 0, 338, .inl (sl))), ((a 4), .inl (kA 2, 2, .inl (sv))), ((a 5), .inl (kA 0, 60, .inl (pd))), ((a 6), .inl (kA 0, 5, .inl (sg)))] := hD
    refine lv_aload_n hx hb dX5_leave_14 rfl (lv_at hl 0 rfl) ?_
    refine xGet C hN hP 0 (j := 0) rfl rfl iX5_leave_X5 (by decide) kX5_leave_7 rfl rfl dX5_leave_15 ?_
    refine lv_iload_n hx hb dX5_leave_18 rfl (lv_at hl 1 rfl) ?_
    refine lv_iconst (v := nI 2) hx hb dX5_leave_19 (by decide) ?_
    refine xSro C hN (As := [.int (nI i), .int (nI 2)]) (rest := [.ref (a 1)]) (c_X5_ofGuild xl D kA i 2) (va_cwS 2 hts gX5_leave_X5_ofGuild rfl rfl rfl (by decide +kernel) ⟨Nat.le_of_ble_eq_true rfl, Nat.le_of_ble_eq_true rfl⟩) (hP.sub (ws' := []) [] rfl) rfl hl.1 rfl (Nat.le_of_ble_eq_true rfl) dX5_leave_20 ⟨Nat.le_of_ble_eq_true rfl, Nat.le_of_ble_eq_true rfl⟩ ?_
    refine xIald C hN hP 1 (j := 129 + 4 * i + 2) (v := nI (V (129 + 4 * i + 2))) rfl (by omega) (by decide) (rfl) dX5_leave_23 ?_
    refine lv_istore_n (lv' := [(2, .int (nI (V (129 + 4 * i + 2)))), (0, .ref (a 0)), (1, .int (nI i))]) hx hb dX5_leave_24 rfl hl (by decide) rfl (fun ls hl => ?_)
    refine lv_aload_n hx hb dX5_leave_25 rfl (lv_at hl 1 rfl) ?_
    refine xGet C hN hP 0 (j := 0) rfl rfl iX5_leave_X5 (by decide) kX5_leave_7 rfl rfl dX5_leave_26 ?_
    refine lv_iconst (v := nI 1) hx hb dX5_leave_29 (by decide) ?_
    refine lv_dup2_11 hx hb dX5_leave_30 rfl rfl ?_
    refine xIald C hN hP 1 (j := 1) (v := nI (V 1)) rfl (by omega) (by decide) (rfl) dX5_leave_31 ?_
    refine lv_iconst (v := nI 1) hx hb dX5_leave_32 (by decide) ?_
    refine xIsub C (by omega) dX5_leave_33 ?_
    refine xIast C hN hP hD hS 1 (j := 1) rfl (by omega) (by decide) dX5_leave_34 (fun H locs hP hD hS => ?_)
    rw [show upd (vI V) (1) (nI ((V 1) - 1)) = vI (shG V i (129 + 4 * i + 0)) from by rw [upd_vI, shG_0]; rfl] at hP hD
    have hP : va_P D vwCl [((a 0), .inr (5, [.ref (a 1), .ref (a 2), .int (nI (pushN kt)), .ref (a 3), .ref (a 4), .ref (a 5), .int (nI ln), .ref (a 6), .int (nI td)])), ((a 1), .inl (kA 0, 169, .inl (vI (shG V i (129 + 4 * i + 0))))), ((a 2), .inl (kA 0, 1014, .inl (h_r))), ((a 3), .inl (kA 0, 338, .inl (sl))), ((a 4), .inl (kA 2, 2, .inl (sv))), ((a 5), .inl (kA 0, 60, .inl (pd))), ((a 6), .inl (kA 0, 5, .inl (sg)))] H := hP
    have hD : va_D A [((a 0), .inr (5, [.ref (a 1), .ref (a 2), .int (nI (pushN kt)), .ref (a 3), .ref (a 4), .ref (a 5), .int (nI ln), .ref (a 6), .int (nI td)])), ((a 1), .inl (kA 0, 169, .inl (vI (shG V i (129 + 4 * i + 0))))), ((a 2), .inl (kA 0, 1014, .inl (h_r))), ((a 3), .inl (kA 0, 338, .inl (sl))), ((a 4), .inl (kA 2, 2, .inl (sv))), ((a 5), .inl (kA 0, 60, .inl (pd))), ((a 6), .inl (kA 0, 5, .inl (sg)))] := hD
    refine lv_iload_n hx hb dX5_leave_35 rfl (lv_at hl 2 rfl) ?_
    refine lv_iconst (v := nI 0) hx hb dX5_leave_36 (by decide) ?_
    refine xSro C hN (As := [.int (nI i), .int (nI 0)]) (rest := []) (c_X5_ofGuild xl D kA i 0) (va_cwS 2 hts gX5_leave_X5_ofGuild rfl rfl rfl (by decide +kernel) ⟨Nat.le_of_ble_eq_true rfl, Nat.le_of_ble_eq_true rfl⟩) (hP.sub (ws' := []) [] rfl) rfl hl.1 rfl (Nat.le_of_ble_eq_true rfl) dX5_leave_37 ⟨Nat.le_of_ble_eq_true rfl, Nat.le_of_ble_eq_true rfl⟩ ?_
    refine lv_istore_n (lv' := [(3, .int (nI (129 + 4 * i + 0))), (2, .int (nI (V (129 + 4 * i + 2)))), (0, .ref (a 0)), (1, .int (nI i))]) hx hb dX5_leave_40 rfl hl (by decide) rfl (fun ls hl => ?_)
    have L41 : ∀ (fuel : Nat), ∀ (k : Nat) (hmu : 200 - k < fuel) (hk1 : 129 + 4 * i ≤ k) (hk2 : k ≤ 129 + 4 * (V 1 - 1)) (H : Heap) (locs : List Loc) (_ : va_P D vwCl [((a 0), .inr (5, [.ref (a 1), .ref (a 2), .int (nI (pushN kt)), .ref (a 3), .ref (a 4), .ref (a 5), .int (nI ln), .ref (a 6), .int (nI td)])), ((a 1), .inl (kA 0, 169, .inl (vI (shG V i k)))), ((a 2), .inl (kA 0, 1014, .inl (h_r))), ((a 3), .inl (kA 0, 338, .inl (sl))), ((a 4), .inl (kA 2, 2, .inl (sv))), ((a 5), .inl (kA 0, 60, .inl (pd))), ((a 6), .inl (kA 0, 5, .inl (sg)))] H) (_ : va_D A [((a 0), .inr (5, [.ref (a 1), .ref (a 2), .int (nI (pushN kt)), .ref (a 3), .ref (a 4), .ref (a 5), .int (nI ln), .ref (a 6), .int (nI td)])), ((a 1), .inl (kA 0, 169, .inl (vI (shG V i k)))), ((a 2), .inl (kA 0, 1014, .inl (h_r))), ((a 3), .inl (kA 0, 338, .inl (sl))), ((a 4), .inl (kA 2, 2, .inl (sv))), ((a 5), .inl (kA 0, 60, .inl (pd))), ((a 6), .inl (kA 0, 5, .inl (sg)))]) (_ : va_S A xs.heap H locs) (ls : Array Slot) (_ : lv_has ls 4 [(3, .int (nI k)), (2, .int (nI (V (129 + 4 * i + 2)))), (0, .ref (a 0)), (1, .int (nI i))]), W xp xl xe (headSpec wsX5_leave { frames := 2, cells := 0, slots := 0, locals := 43 }).room xs xm ([.ref (a 0), .int x] : List Value).toArray xbe xme xc H locs 0 0 (MQ xbe (xQi D A (fun r u => r = (opLeave (V, ln, P, kt, HH, HB, LL) x).1 ∧ ModR kA a (opLeave (V, ln, P, kt, HH, HB, LL) x).2 u)) ([.ref (a 0), .int x] : List Value).toArray xs 0 0 A) (F0 xm 41 ls []) := by
      intro fuel
      induction fuel with
      | zero => intro k hmu; exact absurd hmu (Nat.not_lt_zero _)
      | succ fuel ih41 =>
        intro k hmu hk1 hk2 H locs hP hD hS ls hl
        refine lv_iload_n hx hb dX5_leave_41 rfl (lv_at hl 0 rfl) ?_
        refine lv_aload_n hx hb dX5_leave_42 rfl (lv_at hl 2 rfl) ?_
        refine xGet C hN hP 0 (j := 0) rfl rfl iX5_leave_X5 (by decide) kX5_leave_7 rfl rfl dX5_leave_43 ?_
        refine lv_iconst (v := nI 1) hx hb dX5_leave_46 (by decide) ?_
        refine xIald C hN hP 1 (j := 1) (v := nI (V 1 - 1)) rfl (by omega) (by decide) (rfl) dX5_leave_47 ?_
        refine lv_iconst (v := nI 0) hx hb dX5_leave_48 (by decide) ?_
        refine xSro C hN (As := [.int (nI (V 1 - 1)), .int (nI 0)]) (rest := [.int (nI k)]) (c_X5_ofGuild xl D kA (V 1 - 1) 0) (va_cwS 2 hts gX5_leave_X5_ofGuild rfl rfl rfl (by decide +kernel) ⟨Nat.le_of_ble_eq_true rfl, Nat.le_of_ble_eq_true rfl⟩) (hP.sub (ws' := []) [] rfl) rfl hl.1 rfl (Nat.le_of_ble_eq_true rfl) dX5_leave_49 ⟨Nat.le_of_ble_eq_true rfl, Nat.le_of_ble_eq_true rfl⟩ ?_
        refine xIcmpGe C (tgt := 75) (by omega) (by omega) dX5_leave_52 (by decide) (fun h_52 => ?_) (fun h_52 => ?_)
        · skip
          refine lv_iconst (v := nI 0) hx hb dX5_leave_75 (by decide) ?_
          refine lv_istore_n (lv' := [(3, .int (nI 0)), (2, .int (nI (V (129 + 4 * i + 2)))), (0, .ref (a 0)), (1, .int (nI i))]) hx hb dX5_leave_76 rfl hl (by decide) rfl (fun ls hl => ?_)
          rw [shG_e V (i := i) (k := k) (by omega)] at hP hD
          skip
          have L77 : ∀ (fuel : Nat), ∀ (e : Nat) (hmu : 4 - e < fuel) (he : e ≤ 4) (H : Heap) (locs : List Loc) (_ : va_P D vwCl [((a 0), .inr (5, [.ref (a 1), .ref (a 2), .int (nI (pushN kt)), .ref (a 3), .ref (a 4), .ref (a 5), .int (nI ln), .ref (a 6), .int (nI td)])), ((a 1), .inl (kA 0, 169, .inl (vI (zrG V i e)))), ((a 2), .inl (kA 0, 1014, .inl (h_r))), ((a 3), .inl (kA 0, 338, .inl (sl))), ((a 4), .inl (kA 2, 2, .inl (sv))), ((a 5), .inl (kA 0, 60, .inl (pd))), ((a 6), .inl (kA 0, 5, .inl (sg)))] H) (_ : va_D A [((a 0), .inr (5, [.ref (a 1), .ref (a 2), .int (nI (pushN kt)), .ref (a 3), .ref (a 4), .ref (a 5), .int (nI ln), .ref (a 6), .int (nI td)])), ((a 1), .inl (kA 0, 169, .inl (vI (zrG V i e)))), ((a 2), .inl (kA 0, 1014, .inl (h_r))), ((a 3), .inl (kA 0, 338, .inl (sl))), ((a 4), .inl (kA 2, 2, .inl (sv))), ((a 5), .inl (kA 0, 60, .inl (pd))), ((a 6), .inl (kA 0, 5, .inl (sg)))]) (_ : va_S A xs.heap H locs) (ls : Array Slot) (_ : lv_has ls 4 [(3, .int (nI e)), (2, .int (nI (V (129 + 4 * i + 2)))), (0, .ref (a 0)), (1, .int (nI i))]), W xp xl xe (headSpec wsX5_leave { frames := 2, cells := 0, slots := 0, locals := 43 }).room xs xm ([.ref (a 0), .int x] : List Value).toArray xbe xme xc H locs 0 0 (MQ xbe (xQi D A (fun r u => r = (opLeave (V, ln, P, kt, HH, HB, LL) x).1 ∧ ModR kA a (opLeave (V, ln, P, kt, HH, HB, LL) x).2 u)) ([.ref (a 0), .int x] : List Value).toArray xs 0 0 A) (F0 xm 77 ls []) := by
            intro fuel
            induction fuel with
            | zero => intro e hmu; exact absurd hmu (Nat.not_lt_zero _)
            | succ fuel ih77 =>
              intro e hmu he H locs hP hD hS ls hl
              refine lv_iload_n hx hb dX5_leave_77 rfl (lv_at hl 0 rfl) ?_
              refine lv_iconst (v := nI 4) hx hb dX5_leave_78 (by decide) ?_
              refine xIcmpGe C (tgt := 104) (by omega) (by decide) dX5_leave_79 (by decide) (fun h_79 => ?_) (fun h_79 => ?_)
              · skip
                obtain rfl : e = 4 := by omega
                refine lv_iload_n hx hb dX5_leave_104 rfl (lv_at hl 1 rfl) ?_
                exact xRetI hx hb hret (v := nI (V (129 + 4 * i + 2))) (retS (S2 := ((lvV V i), ln, P, (pushN kt), (pushH HH kt V), HB, LL)) (by simp [opLeave, h_5, t_i, h_52, h_79]) ⟨h_r, sl, sv, pd, sg, td, rfl, hh_r, hpd, hsv⟩) hP hD hS dX5_leave_105 hlocks
              · skip
                refine lv_aload_n hx hb dX5_leave_82 rfl (lv_at hl 2 rfl) ?_
                refine xGet C hN hP 0 (j := 0) rfl rfl iX5_leave_X5 (by decide) kX5_leave_7 rfl rfl dX5_leave_83 ?_
                refine lv_aload_n hx hb dX5_leave_86 rfl (lv_at hl 2 rfl) ?_
                refine xGet C hN hP 0 (j := 0) rfl rfl iX5_leave_X5 (by decide) kX5_leave_7 rfl rfl dX5_leave_87 ?_
                refine lv_iconst (v := nI 1) hx hb dX5_leave_90 (by decide) ?_
                refine xIald C hN hP 1 (j := 1) (v := nI (V 1 - 1)) rfl (by omega) (by decide) (rfl) dX5_leave_91 ?_
                refine lv_iload_n hx hb dX5_leave_92 rfl (lv_at hl 0 rfl) ?_
                refine xSro C hN (As := [.int (nI (V 1 - 1)), .int (nI e)]) (rest := [.ref (a 1)]) (c_X5_ofGuild xl D kA (V 1 - 1) e) (va_cwS 2 hts gX5_leave_X5_ofGuild rfl rfl rfl (by decide +kernel) ⟨Nat.le_of_ble_eq_true rfl, Nat.le_of_ble_eq_true rfl⟩) (hP.sub (ws' := []) [] rfl) rfl hl.1 rfl (Nat.le_of_ble_eq_true rfl) dX5_leave_93 ⟨Nat.le_of_ble_eq_true rfl, Nat.le_of_ble_eq_true rfl⟩ ?_
                refine lv_iconst (v := nI 0) hx hb dX5_leave_96 (by decide) ?_
                refine xIast C hN hP hD hS 1 (j := 129 + 4 * (V 1 - 1) + e) rfl (by omega) (by decide) dX5_leave_97 (fun H locs hP hD hS => ?_)
                rw [show upd (vI (zrG V i e)) (129 + 4 * (V 1 - 1) + e) (nI 0) = vI (zrG V i (e + 1)) from by rw [upd_vI, zrG_s V]] at hP hD
                have hP : va_P D vwCl [((a 0), .inr (5, [.ref (a 1), .ref (a 2), .int (nI (pushN kt)), .ref (a 3), .ref (a 4), .ref (a 5), .int (nI ln), .ref (a 6), .int (nI td)])), ((a 1), .inl (kA 0, 169, .inl (vI (zrG V i (e + 1))))), ((a 2), .inl (kA 0, 1014, .inl (h_r))), ((a 3), .inl (kA 0, 338, .inl (sl))), ((a 4), .inl (kA 2, 2, .inl (sv))), ((a 5), .inl (kA 0, 60, .inl (pd))), ((a 6), .inl (kA 0, 5, .inl (sg)))] H := hP
                have hD : va_D A [((a 0), .inr (5, [.ref (a 1), .ref (a 2), .int (nI (pushN kt)), .ref (a 3), .ref (a 4), .ref (a 5), .int (nI ln), .ref (a 6), .int (nI td)])), ((a 1), .inl (kA 0, 169, .inl (vI (zrG V i (e + 1))))), ((a 2), .inl (kA 0, 1014, .inl (h_r))), ((a 3), .inl (kA 0, 338, .inl (sl))), ((a 4), .inl (kA 2, 2, .inl (sv))), ((a 5), .inl (kA 0, 60, .inl (pd))), ((a 6), .inl (kA 0, 5, .inl (sg)))] := hD
                refine xIinc C (kx := 0) (d := 1) (lv' := [(3, .int (nI (e + 1))), (2, .int (nI (V (129 + 4 * i + 2)))), (0, .ref (a 0)), (1, .int (nI i))]) dX5_leave_98 hl rfl (by decide) (by decide) rfl (fun ls hl => ?_)
                refine lv_goto (tgt := 77) hx hb dX5_leave_101 (by decide) ?_
                have hP : va_P D vwCl [((a 0), .inr (5, [.ref (a 1), .ref (a 2), .int (nI (pushN kt)), .ref (a 3), .ref (a 4), .ref (a 5), .int (nI ln), .ref (a 6), .int (nI td)])), ((a 1), .inl (kA 0, 169, .inl (vI (zrG V i (e + 1))))), ((a 2), .inl (kA 0, 1014, .inl (h_r))), ((a 3), .inl (kA 0, 338, .inl (sl))), ((a 4), .inl (kA 2, 2, .inl (sv))), ((a 5), .inl (kA 0, 60, .inl (pd))), ((a 6), .inl (kA 0, 5, .inl (sg)))] H := hP
                exact ih77 (e + 1) (by omega) (by omega) _ _ hP hD hS _ (lv_sub hl [0, 1, 2, 3] rfl)
          exact L77 _ 0 (Nat.lt_succ_self _) (by omega) _ _ hP hD hS _ (lv_sub hl [0, 1, 2, 3] rfl)
        · skip
          refine lv_aload_n hx hb dX5_leave_55 rfl (lv_at hl 2 rfl) ?_
          refine xGet C hN hP 0 (j := 0) rfl rfl iX5_leave_X5 (by decide) kX5_leave_7 rfl rfl dX5_leave_56 ?_
          refine lv_iload_n hx hb dX5_leave_59 rfl (lv_at hl 0 rfl) ?_
          refine lv_aload_n hx hb dX5_leave_60 rfl (lv_at hl 2 rfl) ?_
          refine xGet C hN hP 0 (j := 0) rfl rfl iX5_leave_X5 (by decide) kX5_leave_7 rfl rfl dX5_leave_61 ?_
          refine lv_iload_n hx hb dX5_leave_64 rfl (lv_at hl 0 rfl) ?_
          refine lv_iconst (v := nI 4) hx hb dX5_leave_65 (by decide) ?_
          refine xIadd C dX5_leave_66 ?_
          refine xIald C hN hP 1 (j := k + 4) (v := nI (V (k + 4))) rfl (by omega) (by decide) (congrArg nI (shG_hi V hk1)) dX5_leave_67 ?_
          refine xIast C hN hP hD hS 1 (j := k) rfl (by omega) (by decide) dX5_leave_68 (fun H locs hP hD hS => ?_)
          rw [show upd (vI (shG V i k)) (k) (nI (V (k + 4))) = vI (shG V i (k + 1)) from by rw [upd_vI, shG_s V hk1]] at hP hD
          have hP : va_P D vwCl [((a 0), .inr (5, [.ref (a 1), .ref (a 2), .int (nI (pushN kt)), .ref (a 3), .ref (a 4), .ref (a 5), .int (nI ln), .ref (a 6), .int (nI td)])), ((a 1), .inl (kA 0, 169, .inl (vI (shG V i (k + 1))))), ((a 2), .inl (kA 0, 1014, .inl (h_r))), ((a 3), .inl (kA 0, 338, .inl (sl))), ((a 4), .inl (kA 2, 2, .inl (sv))), ((a 5), .inl (kA 0, 60, .inl (pd))), ((a 6), .inl (kA 0, 5, .inl (sg)))] H := hP
          have hD : va_D A [((a 0), .inr (5, [.ref (a 1), .ref (a 2), .int (nI (pushN kt)), .ref (a 3), .ref (a 4), .ref (a 5), .int (nI ln), .ref (a 6), .int (nI td)])), ((a 1), .inl (kA 0, 169, .inl (vI (shG V i (k + 1))))), ((a 2), .inl (kA 0, 1014, .inl (h_r))), ((a 3), .inl (kA 0, 338, .inl (sl))), ((a 4), .inl (kA 2, 2, .inl (sv))), ((a 5), .inl (kA 0, 60, .inl (pd))), ((a 6), .inl (kA 0, 5, .inl (sg)))] := hD
          refine xIinc C (kx := 0) (d := 1) (lv' := [(3, .int (nI (k + 1))), (2, .int (nI (V (129 + 4 * i + 2)))), (0, .ref (a 0)), (1, .int (nI i))]) dX5_leave_69 hl rfl (by decide) (by decide) rfl (fun ls hl => ?_)
          refine lv_goto (tgt := 41) hx hb dX5_leave_72 (by decide) ?_
          have hP : va_P D vwCl [((a 0), .inr (5, [.ref (a 1), .ref (a 2), .int (nI (pushN kt)), .ref (a 3), .ref (a 4), .ref (a 5), .int (nI ln), .ref (a 6), .int (nI td)])), ((a 1), .inl (kA 0, 169, .inl (vI (shG V i (k + 1))))), ((a 2), .inl (kA 0, 1014, .inl (h_r))), ((a 3), .inl (kA 0, 338, .inl (sl))), ((a 4), .inl (kA 2, 2, .inl (sv))), ((a 5), .inl (kA 0, 60, .inl (pd))), ((a 6), .inl (kA 0, 5, .inl (sg)))] H := hP
          exact ih41 (k + 1) (by omega) (by omega) (by omega) _ _ hP hD hS _ (lv_sub hl [0, 1, 2, 3] rfl)
    exact L41 _ (129 + 4 * i + 0) (Nat.lt_succ_self _) (by omega) (by omega) _ _ hP hD hS _ (lv_sub hl [0, 1, 2, 3] rfl)
  · skip
    refine lv_iconst (v := (-1)) hx hb dX5_leave_8 (by decide) ?_
    exact xRetI hx hb hret (v := (-1)) (retS (S2 := (V, ln, P, kt, HH, HB, LL)) (by simp [opLeave, h_5]) ⟨hs, sl, sv, pd, sg, td, rfl, hH, hpd, hsv⟩) hP hD hS dX5_leave_9 hlocks

set_option maxHeartbeats 8000000 in
set_option maxRecDepth 100000 in
theorem c_X5_rank (xl : Launch) (D : va_G) (kA : Nat → ClassId) (a : Nat → Nat) (V : Nat → Nat) (hs sl sv pd sg : Nat → Int32) (kt ln td : Nat) (P : Nat → Nat) (HH : Nat → Nat → Nat) (HB : Nat → Bool) (LL : Nat → Nat → Nat) (hI : InvS (V, ln, P, kt, HH, HB, LL)) (hH : relH hs kt HH) (hpd : relP pd ln P) (hsv : relS sv sl HB LL) (x y : Int32) (A : Nat → Prop) : Met xl yX5_rank wsX5_rank { frames := 2, cells := 0, slots := 0, locals := 44 } (va_Pc [.ref (a 0), .int x, .int y] (xPw D kA A [((a 0), .inr (5, [.ref (a 1), .ref (a 2), .int (nI kt), .ref (a 3), .ref (a 4), .ref (a 5), .int (nI ln), .ref (a 6), .int (nI td)])), ((a 1), .inl (kA 0, 169, .inl (vI V))), ((a 2), .inl (kA 0, 1014, .inl (hs))), ((a 3), .inl (kA 0, 338, .inl (sl))), ((a 4), .inl (kA 2, 2, .inl (sv))), ((a 5), .inl (kA 0, 60, .inl (pd))), ((a 6), .inl (kA 0, 5, .inl (sg)))])) (xQi D A (fun r u => r = (opRank (V, ln, P, kt, HH, HB, LL) x y).1 ∧ ModR kA a (opRank (V, ln, P, kt, HH, HB, LL) x y).2 u)) 0 0 A := by
  refine Met.ofW (cc := cX5_rank) (maxL := 3) (ret := (some .int)) (by decide) rfl ?_
  intro xp xe xs xm args xbe xme xc s₁ B hml hv
  obtain ⟨rfl, hP, hN, hD, hA⟩ := hv
  have hret := B.returns
  have C : CallFix xp xm xc cX5_rank 3 xs ([.ref (a 0), .int x, .int y] : List Value).toArray wsX5_rank RX5 := ⟨B.exec, B.bytes, hml, findClass_of_methodNamed B.named, atoms_spec (ws := wsX5_rank) B.pre⟩
  have hlocks := B.notSynchronized
  obtain ⟨hx, hb, _, hown, hts⟩ := id C
  have hS : va_S A xs.heap xs.heap [] := va_S.rf
  have hl := lv_entry ([.ref (a 0), .int x, .int y]) (n := 3) (Nat.le_of_ble_eq_true rfl)
  rw [lg_entry_eq]
  generalize (lg_sl ([.ref (a 0), .int x, .int y]) ++ List.replicate (3 - (lg_sl ([.ref (a 0), .int x, .int y])).length) Slot.unset).toArray = ls at hl ⊢
  have hl : lv_has ls 3 [(0, .ref (a 0)), (1, .int x), (2, .int y)] := hl
  obtain ⟨⟨hV, hW, hM, hG⟩, hm, hwP, hk, hIH, hIL⟩ := hI
  refine lv_aload_n hx hb dX5_rank_0 rfl (lv_at hl 0 rfl) ?_
  refine lv_iload_n hx hb dX5_rank_1 rfl (lv_at hl 1 rfl) ?_
  refine xVro C hN (As := [.int x]) (rest := []) (q0 := 0) (c_X5_isMember xl D kA a V hs sl sv pd sg kt ln td hV hW hM x) (cwV 1 hts gX5_rank_X5_isMember rfl rfl rfl (by decide +kernel) ⟨Nat.le_of_ble_eq_true rfl, Nat.le_of_ble_eq_true rfl⟩) hP rfl rfl rfl rfl hl.1 rfl (Nat.le_of_ble_eq_true rfl) dX5_rank_2 ⟨Nat.le_of_ble_eq_true rfl, Nat.le_of_ble_eq_true rfl⟩ ?_
  refine xIfNeB C (tgt := 10) dX5_rank_5 (by decide) (fun h_5 => ?_) (fun h_5 => ?_)
  · skip
    obtain ⟨i, a_i, e_i, t_i⟩ := hasB_ex h_5 (by omega)
    rw [e_i] at hl
    skip
    refine lv_iload_n hx hb dX5_rank_10 rfl (lv_at hl 2 rfl) ?_
    refine lv_iconst (v := nI 0) hx hb dX5_rank_11 (by decide) ?_
    refine lv_bipush (v := nI 9) hx hb dX5_rank_12 (by decide) ?_
    refine xSro C hN (As := [.int y, .int (nI 0), .int (nI 9)]) (rest := []) (c_X5_in xl D kA y (nI 0) (nI 9)) (va_cwS 3 hts gX5_rank_X5_in rfl rfl rfl (by decide +kernel) ⟨Nat.le_of_ble_eq_true rfl, Nat.le_of_ble_eq_true rfl⟩) (hP.sub (ws' := []) [] rfl) rfl hl.1 rfl (Nat.le_of_ble_eq_true rfl) dX5_rank_14 ⟨Nat.le_of_ble_eq_true rfl, Nat.le_of_ble_eq_true rfl⟩ ?_
    refine xIfEqB C (tgt := 33) dX5_rank_17 (by decide) (fun h_17 => ?_) (fun h_17 => ?_)
    · skip
      refine lv_bipush (v := (-2)) hx hb dX5_rank_33 (by decide) ?_
      exact xRetI hx hb hret (v := (-2)) (retS (S2 := (V, ln, P, kt, HH, HB, LL)) (by simp [opRank, h_5, t_i, h_17]) ⟨hs, sl, sv, pd, sg, td, rfl, hH, hpd, hsv⟩) hP hD hS dX5_rank_35 hlocks
    · skip
      obtain ⟨r1, a_r1, b_r1, e_r1, t_r1⟩ := inR_ex h_17 (by decide) (by decide)
      rw [e_r1] at hl
      skip
      refine lv_aload_n hx hb dX5_rank_20 rfl (lv_at hl 0 rfl) ?_
      refine lv_iload_n hx hb dX5_rank_21 rfl (lv_at hl 1 rfl) ?_
      refine lv_iconst (v := nI 1) hx hb dX5_rank_22 (by decide) ?_
      refine xSro C hN (As := [.int (nI i), .int (nI 1)]) (rest := [.ref (a 0)]) (c_X5_ofGuild xl D kA i 1) (va_cwS 2 hts gX5_rank_X5_ofGuild rfl rfl rfl (by decide +kernel) ⟨Nat.le_of_ble_eq_true rfl, Nat.le_of_ble_eq_true rfl⟩) (hP.sub (ws' := []) [] rfl) rfl hl.1 rfl (Nat.le_of_ble_eq_true rfl) dX5_rank_23 ⟨Nat.le_of_ble_eq_true rfl, Nat.le_of_ble_eq_true rfl⟩ ?_
      refine lv_iload_n hx hb dX5_rank_26 rfl (lv_at hl 2 rfl) ?_
      refine xWWi hS (va_runV (As := [.int (nI (129 + 4 * i + 1)), .int (nI r1)]) (rest := []) C (c_X5_lays xl D kA a V hs sl sv pd sg kt ln td (129 + 4 * i + 1) (r1) (by omega) HH hH hk A) (cwV 2 hts gX5_rank_X5_lays rfl rfl rfl (by decide +kernel) ⟨Nat.le_of_ble_eq_true rfl, Nat.le_of_ble_eq_true rfl⟩) (xPreVw (q0 := 0) hN hP hD (xAll hS hA) rfl rfl rfl) rfl rfl hl.1 rfl (lv_room (Nat.le_of_ble_eq_true rfl)) dX5_rank_27 ⟨Nat.le_of_ble_eq_true rfl, Nat.le_of_ble_eq_true rfl⟩) (fun r_27 u_27 H locs hq_27 hP hD hS => ?_)
      obtain ⟨rfl, h_r, rfl, hh_r⟩ := hq_27
      have hP : va_P D vwCl [((a 0), .inr (5, [.ref (a 1), .ref (a 2), .int (nI (pushN kt)), .ref (a 3), .ref (a 4), .ref (a 5), .int (nI ln), .ref (a 6), .int (nI td)])), ((a 1), .inl (kA 0, 169, .inl (vI (updN V (129 + 4 * i + 1) r1)))), ((a 2), .inl (kA 0, 1014, .inl (h_r))), ((a 3), .inl (kA 0, 338, .inl (sl))), ((a 4), .inl (kA 2, 2, .inl (sv))), ((a 5), .inl (kA 0, 60, .inl (pd))), ((a 6), .inl (kA 0, 5, .inl (sg)))] H := hP
      have hD : va_D A [((a 0), .inr (5, [.ref (a 1), .ref (a 2), .int (nI (pushN kt)), .ref (a 3), .ref (a 4), .ref (a 5), .int (nI ln), .ref (a 6), .int (nI td)])), ((a 1), .inl (kA 0, 169, .inl (vI (updN V (129 + 4 * i + 1) r1)))), ((a 2), .inl (kA 0, 1014, .inl (h_r))), ((a 3), .inl (kA 0, 338, .inl (sl))), ((a 4), .inl (kA 2, 2, .inl (sv))), ((a 5), .inl (kA 0, 60, .inl (pd))), ((a 6), .inl (kA 0, 5, .inl (sg)))] := hD
      refine lv_goto (tgt := 35) hx hb dX5_rank_30 (by decide) ?_
      exact xRetI hx hb hret (v := nI (V (129 + 4 * i + 1))) (retS (S2 := ((updN V (129 + 4 * i + 1) r1), ln, P, (pushN kt), (pushH HH kt V), HB, LL)) (by simp [opRank, h_5, t_i, h_17, t_r1]) ⟨h_r, sl, sv, pd, sg, td, rfl, hh_r, hpd, hsv⟩) hP hD hS dX5_rank_35 hlocks
  · skip
    refine lv_iconst (v := (-1)) hx hb dX5_rank_8 (by decide) ?_
    exact xRetI hx hb hret (v := (-1)) (retS (S2 := (V, ln, P, kt, HH, HB, LL)) (by simp [opRank, h_5]) ⟨hs, sl, sv, pd, sg, td, rfl, hH, hpd, hsv⟩) hP hD hS dX5_rank_9 hlocks

set_option maxHeartbeats 8000000 in
set_option maxRecDepth 100000 in
theorem c_X5_act (xl : Launch) (D : va_G) (kA : Nat → ClassId) (a : Nat → Nat) (V : Nat → Nat) (hs sl sv pd sg : Nat → Int32) (kt ln td : Nat) (P : Nat → Nat) (HH : Nat → Nat → Nat) (HB : Nat → Bool) (LL : Nat → Nat → Nat) (hI : InvS (V, ln, P, kt, HH, HB, LL)) (hH : relH hs kt HH) (hpd : relP pd ln P) (hsv : relS sv sl HB LL) (x d : Int32) (A : Nat → Prop) : Met xl yX5_act wsX5_act { frames := 7, cells := 0, slots := 0, locals := 170 } (va_Pc [.ref (a 0), .int x, .int d] (xPw D kA A [((a 0), .inr (5, [.ref (a 1), .ref (a 2), .int (nI kt), .ref (a 3), .ref (a 4), .ref (a 5), .int (nI ln), .ref (a 6), .int (nI td)])), ((a 1), .inl (kA 0, 169, .inl (vI V))), ((a 2), .inl (kA 0, 1014, .inl (hs))), ((a 3), .inl (kA 0, 338, .inl (sl))), ((a 4), .inl (kA 2, 2, .inl (sv))), ((a 5), .inl (kA 0, 60, .inl (pd))), ((a 6), .inl (kA 0, 5, .inl (sg)))])) (xQi D A (fun r u => r = (opAct (V, ln, P, kt, HH, HB, LL) x d).1 ∧ ModR kA a (opAct (V, ln, P, kt, HH, HB, LL) x d).2 u)) 0 0 A := by
  refine Met.ofW (cc := cX5_act) (maxL := 5) (ret := (some .int)) (by decide) rfl ?_
  intro xp xe xs xm args xbe xme xc s₁ B hml hv
  obtain ⟨rfl, hP, hN, hD, hA⟩ := hv
  have hret := B.returns
  have C : CallFix xp xm xc cX5_act 5 xs ([.ref (a 0), .int x, .int d] : List Value).toArray wsX5_act RX5 := ⟨B.exec, B.bytes, hml, findClass_of_methodNamed B.named, atoms_spec (ws := wsX5_act) B.pre⟩
  have hlocks := B.notSynchronized
  obtain ⟨hx, hb, _, hown, hts⟩ := id C
  have hS : va_S A xs.heap xs.heap [] := va_S.rf
  have hl := lv_entry ([.ref (a 0), .int x, .int d]) (n := 5) (Nat.le_of_ble_eq_true rfl)
  rw [lg_entry_eq]
  generalize (lg_sl ([.ref (a 0), .int x, .int d]) ++ List.replicate (5 - (lg_sl ([.ref (a 0), .int x, .int d])).length) Slot.unset).toArray = ls at hl ⊢
  have hl : lv_has ls 5 [(0, .ref (a 0)), (1, .int x), (2, .int d)] := hl
  obtain ⟨⟨hV, hW, hM, hG⟩, hm, hwP, hk, hIH, hIL⟩ := hI
  refine lv_aload_n hx hb dX5_act_0 rfl (lv_at hl 0 rfl) ?_
  refine lv_iload_n hx hb dX5_act_1 rfl (lv_at hl 1 rfl) ?_
  refine xVro C hN (As := [.int x]) (rest := []) (q0 := 0) (c_X5_isMember xl D kA a V hs sl sv pd sg kt ln td hV hW hM x) (cwV 1 hts gX5_act_X5_isMember rfl rfl rfl (by decide +kernel) ⟨Nat.le_of_ble_eq_true rfl, Nat.le_of_ble_eq_true rfl⟩) hP rfl rfl rfl rfl hl.1 rfl (Nat.le_of_ble_eq_true rfl) dX5_act_2 ⟨Nat.le_of_ble_eq_true rfl, Nat.le_of_ble_eq_true rfl⟩ ?_
  refine xIfEqB C (tgt := 17) dX5_act_5 (by decide) (fun h_5 => ?_) (fun h_5 => ?_)
  · skip
    refine lv_iconst (v := (-1)) hx hb dX5_act_17 (by decide) ?_
    exact xRetI hx hb hret (v := (-1)) (retS (S2 := (V, ln, P, kt, HH, HB, LL)) (by simp [opAct, h_5]) ⟨hs, sl, sv, pd, sg, td, rfl, hH, hpd, hsv⟩) hP hD hS dX5_act_18 hlocks
  · skip
    refine lv_iload_n hx hb dX5_act_8 rfl (lv_at hl 2 rfl) ?_
    refine lv_iconst (v := nI 0) hx hb dX5_act_9 (by decide) ?_
    refine lv_iconst (v := nI 5) hx hb dX5_act_10 (by decide) ?_
    refine xSro C hN (As := [.int d, .int (nI 0), .int (nI 5)]) (rest := []) (c_X5_in xl D kA d (nI 0) (nI 5)) (va_cwS 3 hts gX5_act_X5_in rfl rfl rfl (by decide +kernel) ⟨Nat.le_of_ble_eq_true rfl, Nat.le_of_ble_eq_true rfl⟩) (hP.sub (ws' := []) [] rfl) rfl hl.1 rfl (Nat.le_of_ble_eq_true rfl) dX5_act_11 ⟨Nat.le_of_ble_eq_true rfl, Nat.le_of_ble_eq_true rfl⟩ ?_
    refine xIfNeB C (tgt := 19) dX5_act_14 (by decide) (fun h_14 => ?_) (fun h_14 => ?_)
    · skip
      obtain ⟨i, a_i, e_i, t_i⟩ := hasB_ex h_5 (by omega)
      rw [e_i] at hl
      skip
      obtain ⟨d1, a_d1, b_d1, e_d1, t_d1⟩ := inR_ex h_14 (by decide) (by decide)
      rw [e_d1] at hl
      skip
      refine lv_aload_n hx hb dX5_act_19 rfl (lv_at hl 0 rfl) ?_
      refine xWWv hS (va_runV (As := []) (rest := []) C (c_X5_record xl D kA a V hs sl sv pd sg kt ln td HH hH hk A) (cwV 0 hts gX5_act_X5_record rfl rfl rfl (by decide +kernel) ⟨Nat.le_of_ble_eq_true rfl, Nat.le_of_ble_eq_true rfl⟩) (xPreVw (q0 := 0) hN hP hD (xAll hS hA) rfl rfl rfl) rfl rfl hl.1 rfl (lv_room (Nat.le_of_ble_eq_true rfl)) dX5_act_20 ⟨Nat.le_of_ble_eq_true rfl, Nat.le_of_ble_eq_true rfl⟩) (fun u_20 H locs hq_20 hP hD hS => ?_)
      obtain ⟨h_r, rfl, hh_r⟩ := hq_20
      have hP : va_P D vwCl [((a 0), .inr (5, [.ref (a 1), .ref (a 2), .int (nI (pushN kt)), .ref (a 3), .ref (a 4), .ref (a 5), .int (nI ln), .ref (a 6), .int (nI td)])), ((a 1), .inl (kA 0, 169, .inl (vI V))), ((a 2), .inl (kA 0, 1014, .inl (h_r))), ((a 3), .inl (kA 0, 338, .inl (sl))), ((a 4), .inl (kA 2, 2, .inl (sv))), ((a 5), .inl (kA 0, 60, .inl (pd))), ((a 6), .inl (kA 0, 5, .inl (sg)))] H := hP
      have hD : va_D A [((a 0), .inr (5, [.ref (a 1), .ref (a 2), .int (nI (pushN kt)), .ref (a 3), .ref (a 4), .ref (a 5), .int (nI ln), .ref (a 6), .int (nI td)])), ((a 1), .inl (kA 0, 169, .inl (vI V))), ((a 2), .inl (kA 0, 1014, .inl (h_r))), ((a 3), .inl (kA 0, 338, .inl (sl))), ((a 4), .inl (kA 2, 2, .inl (sv))), ((a 5), .inl (kA 0, 60, .inl (pd))), ((a 6), .inl (kA 0, 5, .inl (sg)))] := hD
      refine lv_aload_n hx hb dX5_act_23 rfl (lv_at hl 0 rfl) ?_
      refine lv_aload_n hx hb dX5_act_24 rfl (lv_at hl 0 rfl) ?_
      refine xGet C hN hP 0 (j := 0) rfl rfl iX5_act_X5 (by decide) kX5_act_7 rfl rfl dX5_act_25 ?_
      refine lv_iload_n hx hb dX5_act_28 rfl (lv_at hl 1 rfl) ?_
      refine lv_iconst (v := nI 0) hx hb dX5_act_29 (by decide) ?_
      refine xSro C hN (As := [.int (nI i), .int (nI 0)]) (rest := [.ref (a 1), .ref (a 0)]) (c_X5_ofGuild xl D kA i 0) (va_cwS 2 hts gX5_act_X5_ofGuild rfl rfl rfl (by decide +kernel) ⟨Nat.le_of_ble_eq_true rfl, Nat.le_of_ble_eq_true rfl⟩) (hP.sub (ws' := []) [] rfl) rfl hl.1 rfl (Nat.le_of_ble_eq_true rfl) dX5_act_30 ⟨Nat.le_of_ble_eq_true rfl, Nat.le_of_ble_eq_true rfl⟩ ?_
      refine xIald C hN hP 1 (j := 129 + 4 * i + 0) (v := nI (V (129 + 4 * i + 0))) rfl (by omega) (by decide) (rfl) dX5_act_33 ?_
      refine lv_iload_n hx hb dX5_act_34 rfl (lv_at hl 2 rfl) ?_
      refine lv_aload_n hx hb dX5_act_35 rfl (lv_at hl 0 rfl) ?_
      refine xGet C hN hP 0 (j := 0) rfl rfl iX5_act_X5 (by decide) kX5_act_7 rfl rfl dX5_act_36 ?_
      refine lv_iload_n hx hb dX5_act_39 rfl (lv_at hl 1 rfl) ?_
      refine lv_iconst (v := nI 1) hx hb dX5_act_40 (by decide) ?_
      refine xSro C hN (As := [.int (nI i), .int (nI 1)]) (rest := [.ref (a 1), .int (nI d1), .int (nI (V (129 + 4 * i + 0))), .ref (a 0)]) (c_X5_ofGuild xl D kA i 1) (va_cwS 2 hts gX5_act_X5_ofGuild rfl rfl rfl (by decide +kernel) ⟨Nat.le_of_ble_eq_true rfl, Nat.le_of_ble_eq_true rfl⟩) (hP.sub (ws' := []) [] rfl) rfl hl.1 rfl (Nat.le_of_ble_eq_true rfl) dX5_act_41 ⟨Nat.le_of_ble_eq_true rfl, Nat.le_of_ble_eq_true rfl⟩ ?_
      refine xIald C hN hP 1 (j := 129 + 4 * i + 1) (v := nI (V (129 + 4 * i + 1))) rfl (by omega) (by decide) (rfl) dX5_act_44 ?_
      refine xWWi hS (va_runV (As := [.int (nI (V (129 + 4 * i + 0))), .int (nI d1), .int (nI (V (129 + 4 * i + 1)))]) (rest := []) C (c_X5_reason xl D kA a V h_r sl sv pd sg (pushN kt) ln td hV hW (V (129 + 4 * i + 0)) d1 (V (129 + 4 * i + 1)) (hG i (by omega)).1 (by omega) (by have := (hG i (by omega)).2; omega) A) (cwV 3 hts gX5_act_X5_reason rfl rfl rfl (by decide +kernel) ⟨Nat.le_of_ble_eq_true rfl, Nat.le_of_ble_eq_true rfl⟩) (xPreVw (q0 := 0) hN hP hD (xAll hS hA) rfl rfl rfl) rfl rfl hl.1 rfl (lv_room (Nat.le_of_ble_eq_true rfl)) dX5_act_45 ⟨Nat.le_of_ble_eq_true rfl, Nat.le_of_ble_eq_true rfl⟩) (fun r_45 u_45 H locs hq_45 hP hD hS => ?_)
      obtain ⟨rfl, g_45, rfl⟩ := hq_45
      have hP : va_P D vwCl [((a 0), .inr (5, [.ref (a 1), .ref (a 2), .int (nI (pushN kt)), .ref (a 3), .ref (a 4), .ref (a 5), .int (nI ln), .ref (a 6), .int (nI td)])), ((a 1), .inl (kA 0, 169, .inl (vI V))), ((a 2), .inl (kA 0, 1014, .inl (h_r))), ((a 3), .inl (kA 0, 338, .inl (sl))), ((a 4), .inl (kA 2, 2, .inl (sv))), ((a 5), .inl (kA 0, 60, .inl (pd))), ((a 6), .inl (kA 0, 5, .inl (g_45)))] H := hP
      have hD : va_D A [((a 0), .inr (5, [.ref (a 1), .ref (a 2), .int (nI (pushN kt)), .ref (a 3), .ref (a 4), .ref (a 5), .int (nI ln), .ref (a 6), .int (nI td)])), ((a 1), .inl (kA 0, 169, .inl (vI V))), ((a 2), .inl (kA 0, 1014, .inl (h_r))), ((a 3), .inl (kA 0, 338, .inl (sl))), ((a 4), .inl (kA 2, 2, .inl (sv))), ((a 5), .inl (kA 0, 60, .inl (pd))), ((a 6), .inl (kA 0, 5, .inl (g_45)))] := hD
      refine lv_istore_n (lv' := [(3, .int (rsnT (V 0) (TV V) (V (129 + 4 * i + 0)) d1 (V (129 + 4 * i + 1)))), (0, .ref (a 0)), (1, .int (nI i)), (2, .int (nI d1))]) hx hb dX5_act_48 rfl hl (by decide) rfl (fun ls hl => ?_)
      refine lv_aload_n hx hb dX5_act_49 rfl (lv_at hl 1 rfl) ?_
      refine xGet C hN hP 0 (j := 0) rfl rfl iX5_act_X5 (by decide) kX5_act_7 rfl rfl dX5_act_50 ?_
      refine lv_iload_n hx hb dX5_act_53 rfl (lv_at hl 2 rfl) ?_
      refine lv_iload_n hx hb dX5_act_54 rfl (lv_at hl 0 rfl) ?_
      refine lv_bipush (v := (-6)) hx hb dX5_act_55 (by decide) ?_
      refine lv_icmp_ne (tgt := 64) hx hb dX5_act_57 (by decide) (fun h_57 => ?_) (fun h_57 => ?_)
      · skip
        refine lv_iconst (v := nI 3) hx hb dX5_act_64 (by decide) ?_
        refine xSro C hN (As := [.int (nI i), .int (nI 3)]) (rest := [.ref (a 1)]) (c_X5_ofGuild xl D kA i 3) (va_cwS 2 hts gX5_act_X5_ofGuild rfl rfl rfl (by decide +kernel) ⟨Nat.le_of_ble_eq_true rfl, Nat.le_of_ble_eq_true rfl⟩) (hP.sub (ws' := []) [] rfl) rfl hl.1 rfl (Nat.le_of_ble_eq_true rfl) dX5_act_65 ⟨Nat.le_of_ble_eq_true rfl, Nat.le_of_ble_eq_true rfl⟩ ?_
        refine lv_dup2_11 hx hb dX5_act_68 rfl rfl ?_
        refine xIald C hN hP 1 (j := 129 + 4 * i + 3) (v := nI (V (129 + 4 * i + 3))) rfl (by omega) (by decide) (rfl) dX5_act_69 ?_
        refine lv_iconst (v := nI 1) hx hb dX5_act_70 (by decide) ?_
        refine xIadd C dX5_act_71 ?_
        refine xIast C hN hP hD hS 1 (j := 129 + 4 * i + 3) rfl (by omega) (by decide) dX5_act_72 (fun H locs hP hD hS => ?_)
        rw [show upd (vI V) (129 + 4 * i + 3) (nI ((V (129 + 4 * i + 3)) + 1)) = vI (updN V (129 + 4 * i + 3) ((V (129 + 4 * i + 3)) + 1)) from upd_vI _ _ _] at hP hD
        have hP : va_P D vwCl [((a 0), .inr (5, [.ref (a 1), .ref (a 2), .int (nI (pushN kt)), .ref (a 3), .ref (a 4), .ref (a 5), .int (nI ln), .ref (a 6), .int (nI td)])), ((a 1), .inl (kA 0, 169, .inl (vI (updN V (129 + 4 * i + 3) ((V (129 + 4 * i + 3)) + 1))))), ((a 2), .inl (kA 0, 1014, .inl (h_r))), ((a 3), .inl (kA 0, 338, .inl (sl))), ((a 4), .inl (kA 2, 2, .inl (sv))), ((a 5), .inl (kA 0, 60, .inl (pd))), ((a 6), .inl (kA 0, 5, .inl (g_45)))] H := hP
        have hD : va_D A [((a 0), .inr (5, [.ref (a 1), .ref (a 2), .int (nI (pushN kt)), .ref (a 3), .ref (a 4), .ref (a 5), .int (nI ln), .ref (a 6), .int (nI td)])), ((a 1), .inl (kA 0, 169, .inl (vI (updN V (129 + 4 * i + 3) ((V (129 + 4 * i + 3)) + 1))))), ((a 2), .inl (kA 0, 1014, .inl (h_r))), ((a 3), .inl (kA 0, 338, .inl (sl))), ((a 4), .inl (kA 2, 2, .inl (sv))), ((a 5), .inl (kA 0, 60, .inl (pd))), ((a 6), .inl (kA 0, 5, .inl (g_45)))] := hD
        refine lv_iload_n hx hb dX5_act_73 rfl (lv_at hl 0 rfl) ?_
        refine lv_bipush (v := (-6)) hx hb dX5_act_74 (by decide) ?_
        refine lv_icmp_ne (tgt := 83) hx hb dX5_act_76 (by decide) (fun h_76 => ?_) (fun h_76 => ?_)
        · skip
          refine lv_iload_n hx hb dX5_act_83 rfl (lv_at hl 0 rfl) ?_
          refine lv_bipush (v := nI 100) hx hb dX5_act_84 (by decide) ?_
          refine lv_icmp_ne (tgt := 94) hx hb dX5_act_86 (by decide) (fun h_86 => ?_) (fun h_86 => ?_)
          · skip
            obtain ⟨j, j1, j2⟩ : ∃ j, j < V 0 ∧ (rsnT (V 0) (TV V) (V (129 + 4 * i + 0)) d1 (V (129 + 4 * i + 1))) = nI j := by rcases rsn_cases (c := V (129 + 4 * i + 0)) (d := d1) (rk := V (129 + 4 * i + 1)) hW with q | q | q; exact absurd q h_57; exact absurd q h_86; exact q
            rw [j2] at hl
            have n6 : ¬ nI j = -6 := nI_ne6 (by omega)
            have n100 : ¬ nI j = nI 100 := by rw [← j2]; exact h_86
            have tj : toN (nI j) = j := toN_nI (by omega)
            skip
            refine lv_iconst (v := nI 3) hx hb dX5_act_94 (by decide) ?_
            refine lv_aload_n hx hb dX5_act_95 rfl (lv_at hl 1 rfl) ?_
            refine lv_iload_n hx hb dX5_act_96 rfl (lv_at hl 0 rfl) ?_
            refine lv_iconst (v := nI 0) hx hb dX5_act_97 (by decide) ?_
            refine xVro C hN (As := [.int (nI j), .int (nI 0)]) (rest := [.int (nI 3)]) (q0 := 0) (c_X5_of xl D kA a (updN V (129 + 4 * i + 3) ((V (129 + 4 * i + 3)) + 1)) h_r sl sv pd g_45 (pushN kt) ln td j 0 (by omega) (by omega)) (cwV 2 hts gX5_act_X5_of rfl rfl rfl (by decide +kernel) ⟨Nat.le_of_ble_eq_true rfl, Nat.le_of_ble_eq_true rfl⟩) hP rfl rfl rfl rfl hl.1 rfl (Nat.le_of_ble_eq_true rfl) dX5_act_98 ⟨Nat.le_of_ble_eq_true rfl, Nat.le_of_ble_eq_true rfl⟩ ?_
            refine xTop (y := nI (TV V j 0)) (congrArg nI (TV_g (by omega) (by omega) (by omega))) ?_
            refine xIadd C dX5_act_101 ?_
            refine lv_istore (lv' := [(4, .int (nI (3 + (TV V j 0)))), (3, .int (nI j)), (0, .ref (a 0)), (1, .int (nI i)), (2, .int (nI d1))]) hx hb dX5_act_102 hl (by decide) rfl (fun ls hl => ?_)
            refine lv_aload_n hx hb dX5_act_104 rfl (lv_at hl 2 rfl) ?_
            refine xGet C hN hP 0 (j := 0) rfl rfl iX5_act_X5 (by decide) kX5_act_7 rfl rfl dX5_act_105 ?_
            refine lv_iload hx hb dX5_act_108 (lv_at hl 0 rfl) ?_
            refine lv_dup2_11 hx hb dX5_act_110 rfl rfl ?_
            refine xIald C hN hP 1 (j := 3 + (TV V j 0)) (v := nI ((updN V (129 + 4 * i + 3) ((V (129 + 4 * i + 3)) + 1)) (3 + (TV V j 0)))) rfl (by first | omega | (have := hW j (by omega); omega)) (by decide) (rfl) dX5_act_111 ?_
            refine lv_iconst (v := nI 1) hx hb dX5_act_112 (by decide) ?_
            refine xIadd C dX5_act_113 ?_
            refine xIast C hN hP hD hS 1 (j := 3 + (TV V j 0)) rfl (by first | omega | (have := hW j (by omega); omega)) (by decide) dX5_act_114 (fun H locs hP hD hS => ?_)
            rw [show upd (vI (updN V (129 + 4 * i + 3) ((V (129 + 4 * i + 3)) + 1))) (3 + (TV V j 0)) (nI (((updN V (129 + 4 * i + 3) ((V (129 + 4 * i + 3)) + 1)) (3 + (TV V j 0))) + 1)) = vI (updN (updN V (129 + 4 * i + 3) ((V (129 + 4 * i + 3)) + 1)) (3 + (TV V j 0)) (((updN V (129 + 4 * i + 3) ((V (129 + 4 * i + 3)) + 1)) (3 + (TV V j 0))) + 1)) from upd_vI _ _ _] at hP hD
            have hP : va_P D vwCl [((a 0), .inr (5, [.ref (a 1), .ref (a 2), .int (nI (pushN kt)), .ref (a 3), .ref (a 4), .ref (a 5), .int (nI ln), .ref (a 6), .int (nI td)])), ((a 1), .inl (kA 0, 169, .inl (vI (updN (updN V (129 + 4 * i + 3) ((V (129 + 4 * i + 3)) + 1)) (3 + (TV V j 0)) (((updN V (129 + 4 * i + 3) ((V (129 + 4 * i + 3)) + 1)) (3 + (TV V j 0))) + 1))))), ((a 2), .inl (kA 0, 1014, .inl (h_r))), ((a 3), .inl (kA 0, 338, .inl (sl))), ((a 4), .inl (kA 2, 2, .inl (sv))), ((a 5), .inl (kA 0, 60, .inl (pd))), ((a 6), .inl (kA 0, 5, .inl (g_45)))] H := hP
            have hD : va_D A [((a 0), .inr (5, [.ref (a 1), .ref (a 2), .int (nI (pushN kt)), .ref (a 3), .ref (a 4), .ref (a 5), .int (nI ln), .ref (a 6), .int (nI td)])), ((a 1), .inl (kA 0, 169, .inl (vI (updN (updN V (129 + 4 * i + 3) ((V (129 + 4 * i + 3)) + 1)) (3 + (TV V j 0)) (((updN V (129 + 4 * i + 3) ((V (129 + 4 * i + 3)) + 1)) (3 + (TV V j 0))) + 1))))), ((a 2), .inl (kA 0, 1014, .inl (h_r))), ((a 3), .inl (kA 0, 338, .inl (sl))), ((a 4), .inl (kA 2, 2, .inl (sv))), ((a 5), .inl (kA 0, 60, .inl (pd))), ((a 6), .inl (kA 0, 5, .inl (g_45)))] := hD
            rw [show (updN (updN V (129 + 4 * i + 3) ((V (129 + 4 * i + 3)) + 1)) (3 + (TV V j 0)) (((updN V (129 + 4 * i + 3) ((V (129 + 4 * i + 3)) + 1)) (3 + (TV V j 0))) + 1)) = acV V i (rsnT (V 0) (TV V) (V (129 + 4 * i + 0)) d1 (V (129 + 4 * i + 1))) from ac_j j2 n6 n100 tj] at hP hD
            rw [← j2] at hl
            refine lv_iload_n hx hb dX5_act_115 rfl (lv_at hl 1 rfl) ?_
            exact xRetI hx hb hret (v := (rsnT (V 0) (TV V) (V (129 + 4 * i + 0)) d1 (V (129 + 4 * i + 1)))) (retS (S2 := ((acV V i (rsnT (V 0) (TV V) (V (129 + 4 * i + 0)) d1 (V (129 + 4 * i + 1)))), ln, P, (pushN kt), (pushH HH kt V), HB, LL)) (by simp [opAct, h_5, h_14, t_i, t_d1]) ⟨h_r, sl, sv, pd, g_45, td, rfl, hh_r, hpd, hsv⟩) hP hD hS dX5_act_116 hlocks
          · skip
            refine lv_bipush (v := nI 8) hx hb dX5_act_89 (by decide) ?_
            refine lv_goto (tgt := 102) hx hb dX5_act_91 (by decide) ?_
            refine lv_istore (lv' := [(4, .int (nI 8)), (3, .int (rsnT (V 0) (TV V) (V (129 + 4 * i + 0)) d1 (V (129 + 4 * i + 1)))), (0, .ref (a 0)), (1, .int (nI i)), (2, .int (nI d1))]) hx hb dX5_act_102 hl (by decide) rfl (fun ls hl => ?_)
            refine lv_aload_n hx hb dX5_act_104 rfl (lv_at hl 2 rfl) ?_
            refine xGet C hN hP 0 (j := 0) rfl rfl iX5_act_X5 (by decide) kX5_act_7 rfl rfl dX5_act_105 ?_
            refine lv_iload hx hb dX5_act_108 (lv_at hl 0 rfl) ?_
            refine lv_dup2_11 hx hb dX5_act_110 rfl rfl ?_
            refine xIald C hN hP 1 (j := 8) (v := nI ((updN V (129 + 4 * i + 3) ((V (129 + 4 * i + 3)) + 1)) 8)) rfl (by first | omega | (have := hW j (by omega); omega)) (by decide) (rfl) dX5_act_111 ?_
            refine lv_iconst (v := nI 1) hx hb dX5_act_112 (by decide) ?_
            refine xIadd C dX5_act_113 ?_
            refine xIast C hN hP hD hS 1 (j := 8) rfl (by first | omega | (have := hW j (by omega); omega)) (by decide) dX5_act_114 (fun H locs hP hD hS => ?_)
            rw [show upd (vI (updN V (129 + 4 * i + 3) ((V (129 + 4 * i + 3)) + 1))) (8) (nI (((updN V (129 + 4 * i + 3) ((V (129 + 4 * i + 3)) + 1)) 8) + 1)) = vI (updN (updN V (129 + 4 * i + 3) ((V (129 + 4 * i + 3)) + 1)) (8) (((updN V (129 + 4 * i + 3) ((V (129 + 4 * i + 3)) + 1)) 8) + 1)) from upd_vI _ _ _] at hP hD
            have hP : va_P D vwCl [((a 0), .inr (5, [.ref (a 1), .ref (a 2), .int (nI (pushN kt)), .ref (a 3), .ref (a 4), .ref (a 5), .int (nI ln), .ref (a 6), .int (nI td)])), ((a 1), .inl (kA 0, 169, .inl (vI (updN (updN V (129 + 4 * i + 3) ((V (129 + 4 * i + 3)) + 1)) (8) (((updN V (129 + 4 * i + 3) ((V (129 + 4 * i + 3)) + 1)) 8) + 1))))), ((a 2), .inl (kA 0, 1014, .inl (h_r))), ((a 3), .inl (kA 0, 338, .inl (sl))), ((a 4), .inl (kA 2, 2, .inl (sv))), ((a 5), .inl (kA 0, 60, .inl (pd))), ((a 6), .inl (kA 0, 5, .inl (g_45)))] H := hP
            have hD : va_D A [((a 0), .inr (5, [.ref (a 1), .ref (a 2), .int (nI (pushN kt)), .ref (a 3), .ref (a 4), .ref (a 5), .int (nI ln), .ref (a 6), .int (nI td)])), ((a 1), .inl (kA 0, 169, .inl (vI (updN (updN V (129 + 4 * i + 3) ((V (129 + 4 * i + 3)) + 1)) (8) (((updN V (129 + 4 * i + 3) ((V (129 + 4 * i + 3)) + 1)) 8) + 1))))), ((a 2), .inl (kA 0, 1014, .inl (h_r))), ((a 3), .inl (kA 0, 338, .inl (sl))), ((a 4), .inl (kA 2, 2, .inl (sv))), ((a 5), .inl (kA 0, 60, .inl (pd))), ((a 6), .inl (kA 0, 5, .inl (g_45)))] := hD
            rw [show (updN (updN V (129 + 4 * i + 3) ((V (129 + 4 * i + 3)) + 1)) (8) (((updN V (129 + 4 * i + 3) ((V (129 + 4 * i + 3)) + 1)) 8) + 1)) = acV V i (rsnT (V 0) (TV V) (V (129 + 4 * i + 0)) d1 (V (129 + 4 * i + 1))) from ac_8 h_57 h_86] at hP hD
            refine lv_iload_n hx hb dX5_act_115 rfl (lv_at hl 1 rfl) ?_
            exact xRetI hx hb hret (v := (rsnT (V 0) (TV V) (V (129 + 4 * i + 0)) d1 (V (129 + 4 * i + 1)))) (retS (S2 := ((acV V i (rsnT (V 0) (TV V) (V (129 + 4 * i + 0)) d1 (V (129 + 4 * i + 1)))), ln, P, (pushN kt), (pushH HH kt V), HB, LL)) (by simp [opAct, h_5, h_14, t_i, t_d1]) ⟨h_r, sl, sv, pd, g_45, td, rfl, hh_r, hpd, hsv⟩) hP hD hS dX5_act_116 hlocks
        · exact absurd h_76 h_57
      · skip
        refine lv_iconst (v := nI 2) hx hb dX5_act_60 (by decide) ?_
        refine lv_goto (tgt := 65) hx hb dX5_act_61 (by decide) ?_
        refine xSro C hN (As := [.int (nI i), .int (nI 2)]) (rest := [.ref (a 1)]) (c_X5_ofGuild xl D kA i 2) (va_cwS 2 hts gX5_act_X5_ofGuild rfl rfl rfl (by decide +kernel) ⟨Nat.le_of_ble_eq_true rfl, Nat.le_of_ble_eq_true rfl⟩) (hP.sub (ws' := []) [] rfl) rfl hl.1 rfl (Nat.le_of_ble_eq_true rfl) dX5_act_65 ⟨Nat.le_of_ble_eq_true rfl, Nat.le_of_ble_eq_true rfl⟩ ?_
        refine lv_dup2_11 hx hb dX5_act_68 rfl rfl ?_
        refine xIald C hN hP 1 (j := 129 + 4 * i + 2) (v := nI (V (129 + 4 * i + 2))) rfl (by omega) (by decide) (rfl) dX5_act_69 ?_
        refine lv_iconst (v := nI 1) hx hb dX5_act_70 (by decide) ?_
        refine xIadd C dX5_act_71 ?_
        refine xIast C hN hP hD hS 1 (j := 129 + 4 * i + 2) rfl (by omega) (by decide) dX5_act_72 (fun H locs hP hD hS => ?_)
        rw [show upd (vI V) (129 + 4 * i + 2) (nI ((V (129 + 4 * i + 2)) + 1)) = vI (updN V (129 + 4 * i + 2) ((V (129 + 4 * i + 2)) + 1)) from upd_vI _ _ _] at hP hD
        have hP : va_P D vwCl [((a 0), .inr (5, [.ref (a 1), .ref (a 2), .int (nI (pushN kt)), .ref (a 3), .ref (a 4), .ref (a 5), .int (nI ln), .ref (a 6), .int (nI td)])), ((a 1), .inl (kA 0, 169, .inl (vI (updN V (129 + 4 * i + 2) ((V (129 + 4 * i + 2)) + 1))))), ((a 2), .inl (kA 0, 1014, .inl (h_r))), ((a 3), .inl (kA 0, 338, .inl (sl))), ((a 4), .inl (kA 2, 2, .inl (sv))), ((a 5), .inl (kA 0, 60, .inl (pd))), ((a 6), .inl (kA 0, 5, .inl (g_45)))] H := hP
        have hD : va_D A [((a 0), .inr (5, [.ref (a 1), .ref (a 2), .int (nI (pushN kt)), .ref (a 3), .ref (a 4), .ref (a 5), .int (nI ln), .ref (a 6), .int (nI td)])), ((a 1), .inl (kA 0, 169, .inl (vI (updN V (129 + 4 * i + 2) ((V (129 + 4 * i + 2)) + 1))))), ((a 2), .inl (kA 0, 1014, .inl (h_r))), ((a 3), .inl (kA 0, 338, .inl (sl))), ((a 4), .inl (kA 2, 2, .inl (sv))), ((a 5), .inl (kA 0, 60, .inl (pd))), ((a 6), .inl (kA 0, 5, .inl (g_45)))] := hD
        refine lv_iload_n hx hb dX5_act_73 rfl (lv_at hl 0 rfl) ?_
        refine lv_bipush (v := (-6)) hx hb dX5_act_74 (by decide) ?_
        refine lv_icmp_ne (tgt := 83) hx hb dX5_act_76 (by decide) (fun h_76 => ?_) (fun h_76 => ?_)
        · exact absurd h_57 h_76
        · skip
          refine lv_iconst (v := nI 2) hx hb dX5_act_79 (by decide) ?_
          refine lv_goto (tgt := 102) hx hb dX5_act_80 (by decide) ?_
          refine lv_istore (lv' := [(4, .int (nI 2)), (3, .int (rsnT (V 0) (TV V) (V (129 + 4 * i + 0)) d1 (V (129 + 4 * i + 1)))), (0, .ref (a 0)), (1, .int (nI i)), (2, .int (nI d1))]) hx hb dX5_act_102 hl (by decide) rfl (fun ls hl => ?_)
          refine lv_aload_n hx hb dX5_act_104 rfl (lv_at hl 2 rfl) ?_
          refine xGet C hN hP 0 (j := 0) rfl rfl iX5_act_X5 (by decide) kX5_act_7 rfl rfl dX5_act_105 ?_
          refine lv_iload hx hb dX5_act_108 (lv_at hl 0 rfl) ?_
          refine lv_dup2_11 hx hb dX5_act_110 rfl rfl ?_
          refine xIald C hN hP 1 (j := 2) (v := nI ((updN V (129 + 4 * i + 2) ((V (129 + 4 * i + 2)) + 1)) 2)) rfl (by first | omega | (have := hW j (by omega); omega)) (by decide) (rfl) dX5_act_111 ?_
          refine lv_iconst (v := nI 1) hx hb dX5_act_112 (by decide) ?_
          refine xIadd C dX5_act_113 ?_
          refine xIast C hN hP hD hS 1 (j := 2) rfl (by first | omega | (have := hW j (by omega); omega)) (by decide) dX5_act_114 (fun H locs hP hD hS => ?_)
          rw [show upd (vI (updN V (129 + 4 * i + 2) ((V (129 + 4 * i + 2)) + 1))) (2) (nI (((updN V (129 + 4 * i + 2) ((V (129 + 4 * i + 2)) + 1)) 2) + 1)) = vI (updN (updN V (129 + 4 * i + 2) ((V (129 + 4 * i + 2)) + 1)) (2) (((updN V (129 + 4 * i + 2) ((V (129 + 4 * i + 2)) + 1)) 2) + 1)) from upd_vI _ _ _] at hP hD
          have hP : va_P D vwCl [((a 0), .inr (5, [.ref (a 1), .ref (a 2), .int (nI (pushN kt)), .ref (a 3), .ref (a 4), .ref (a 5), .int (nI ln), .ref (a 6), .int (nI td)])), ((a 1), .inl (kA 0, 169, .inl (vI (updN (updN V (129 + 4 * i + 2) ((V (129 + 4 * i + 2)) + 1)) (2) (((updN V (129 + 4 * i + 2) ((V (129 + 4 * i + 2)) + 1)) 2) + 1))))), ((a 2), .inl (kA 0, 1014, .inl (h_r))), ((a 3), .inl (kA 0, 338, .inl (sl))), ((a 4), .inl (kA 2, 2, .inl (sv))), ((a 5), .inl (kA 0, 60, .inl (pd))), ((a 6), .inl (kA 0, 5, .inl (g_45)))] H := hP
          have hD : va_D A [((a 0), .inr (5, [.ref (a 1), .ref (a 2), .int (nI (pushN kt)), .ref (a 3), .ref (a 4), .ref (a 5), .int (nI ln), .ref (a 6), .int (nI td)])), ((a 1), .inl (kA 0, 169, .inl (vI (updN (updN V (129 + 4 * i + 2) ((V (129 + 4 * i + 2)) + 1)) (2) (((updN V (129 + 4 * i + 2) ((V (129 + 4 * i + 2)) + 1)) 2) + 1))))), ((a 2), .inl (kA 0, 1014, .inl (h_r))), ((a 3), .inl (kA 0, 338, .inl (sl))), ((a 4), .inl (kA 2, 2, .inl (sv))), ((a 5), .inl (kA 0, 60, .inl (pd))), ((a 6), .inl (kA 0, 5, .inl (g_45)))] := hD
          rw [show (updN (updN V (129 + 4 * i + 2) ((V (129 + 4 * i + 2)) + 1)) (2) (((updN V (129 + 4 * i + 2) ((V (129 + 4 * i + 2)) + 1)) 2) + 1)) = acV V i (rsnT (V 0) (TV V) (V (129 + 4 * i + 0)) d1 (V (129 + 4 * i + 1))) from ac_2 h_57] at hP hD
          refine lv_iload_n hx hb dX5_act_115 rfl (lv_at hl 1 rfl) ?_
          exact xRetI hx hb hret (v := (rsnT (V 0) (TV V) (V (129 + 4 * i + 0)) d1 (V (129 + 4 * i + 1)))) (retS (S2 := ((acV V i (rsnT (V 0) (TV V) (V (129 + 4 * i + 0)) d1 (V (129 + 4 * i + 1)))), ln, P, (pushN kt), (pushH HH kt V), HB, LL)) (by simp [opAct, h_5, h_14, t_i, t_d1]) ⟨h_r, sl, sv, pd, g_45, td, rfl, hh_r, hpd, hsv⟩) hP hD hS dX5_act_116 hlocks
    · skip
      refine lv_iconst (v := (-1)) hx hb dX5_act_17 (by decide) ?_
      exact xRetI hx hb hret (v := (-1)) (retS (S2 := (V, ln, P, kt, HH, HB, LL)) (by simp [opAct, h_5, h_14]) ⟨hs, sl, sv, pd, sg, td, rfl, hH, hpd, hsv⟩) hP hD hS dX5_act_18 hlocks

set_option maxHeartbeats 8000000 in
set_option maxRecDepth 100000 in
theorem c_X5_rule (xl : Launch) (D : va_G) (kA : Nat → ClassId) (a : Nat → Nat) (V : Nat → Nat) (hs sl sv pd sg : Nat → Int32) (kt ln td : Nat) (P : Nat → Nat) (HH : Nat → Nat → Nat) (HB : Nat → Bool) (LL : Nat → Nat → Nat) (hI : InvS (V, ln, P, kt, HH, HB, LL)) (hH : relH hs kt HH) (hpd : relP pd ln P) (hsv : relS sv sl HB LL) (x w : Int32) (A : Nat → Prop) : Met xl yX5_rule wsX5_rule { frames := 7, cells := 0, slots := 0, locals := 166 } (va_Pc [.ref (a 0), .int x, .int w] (xPw D kA A [((a 0), .inr (5, [.ref (a 1), .ref (a 2), .int (nI kt), .ref (a 3), .ref (a 4), .ref (a 5), .int (nI ln), .ref (a 6), .int (nI td)])), ((a 1), .inl (kA 0, 169, .inl (vI V))), ((a 2), .inl (kA 0, 1014, .inl (hs))), ((a 3), .inl (kA 0, 338, .inl (sl))), ((a 4), .inl (kA 2, 2, .inl (sv))), ((a 5), .inl (kA 0, 60, .inl (pd))), ((a 6), .inl (kA 0, 5, .inl (sg)))])) (xQi D A (fun r u => r = (opRule (V, ln, P, kt, HH, HB, LL) x w).1 ∧ ModR kA a (opRule (V, ln, P, kt, HH, HB, LL) x w).2 u)) 0 0 A := by
  refine Met.ofW (cc := cX5_rule) (maxL := 3) (ret := (some .int)) (by decide) rfl ?_
  intro xp xe xs xm args xbe xme xc s₁ B hml hv
  obtain ⟨rfl, hP, hN, hD, hA⟩ := hv
  have hret := B.returns
  have C : CallFix xp xm xc cX5_rule 3 xs ([.ref (a 0), .int x, .int w] : List Value).toArray wsX5_rule RX5 := ⟨B.exec, B.bytes, hml, findClass_of_methodNamed B.named, atoms_spec (ws := wsX5_rule) B.pre⟩
  have hlocks := B.notSynchronized
  obtain ⟨hx, hb, _, hown, hts⟩ := id C
  have hS : va_S A xs.heap xs.heap [] := va_S.rf
  have hl := lv_entry ([.ref (a 0), .int x, .int w]) (n := 3) (Nat.le_of_ble_eq_true rfl)
  rw [lg_entry_eq]
  generalize (lg_sl ([.ref (a 0), .int x, .int w]) ++ List.replicate (3 - (lg_sl ([.ref (a 0), .int x, .int w])).length) Slot.unset).toArray = ls at hl ⊢
  have hl : lv_has ls 3 [(0, .ref (a 0)), (1, .int x), (2, .int w)] := hl
  obtain ⟨⟨hV, hW, hM, hG⟩, hm, hwP, hk, hIH, hIL⟩ := hI
  refine lv_aload_n hx hb dX5_rule_0 rfl (lv_at hl 0 rfl) ?_
  refine lv_iload_n hx hb dX5_rule_1 rfl (lv_at hl 1 rfl) ?_
  refine xVro C hN (As := [.int x]) (rest := []) (q0 := 0) (c_X5_isRule xl D kA a V hs sl sv pd sg kt ln td hV hW x) (cwV 1 hts gX5_rule_X5_isRule rfl rfl rfl (by decide +kernel) ⟨Nat.le_of_ble_eq_true rfl, Nat.le_of_ble_eq_true rfl⟩) hP rfl rfl rfl rfl hl.1 rfl (Nat.le_of_ble_eq_true rfl) dX5_rule_2 ⟨Nat.le_of_ble_eq_true rfl, Nat.le_of_ble_eq_true rfl⟩ ?_
  refine xIfNeB C (tgt := 10) dX5_rule_5 (by decide) (fun h_5 => ?_) (fun h_5 => ?_)
  · skip
    obtain ⟨i, a_i, e_i, t_i⟩ := hasB_ex h_5 (by omega)
    rw [e_i] at hl
    skip
    refine lv_iload_n hx hb dX5_rule_10 rfl (lv_at hl 2 rfl) ?_
    rcases xTab (x := w) 5 3 (by decide) with h_11 | ⟨j_11, hj_11, e_11⟩
    · refine lv_tableOut (tgt := 90) hx hb dX5_rule_11 (by omega) (by decide) ?_
      refine lv_iload_n hx hb dX5_rule_90 rfl (lv_at hl 2 rfl) ?_
      refine lv_iconst (v := nI 0) hx hb dX5_rule_91 (by decide) ?_
      refine lv_iconst (v := nI 4) hx hb dX5_rule_92 (by decide) ?_
      refine xSro C hN (As := [.int w, .int (nI 0), .int (nI 4)]) (rest := []) (c_X5_in xl D kA w (nI 0) (nI 4)) (va_cwS 3 hts gX5_rule_X5_in rfl rfl rfl (by decide +kernel) ⟨Nat.le_of_ble_eq_true rfl, Nat.le_of_ble_eq_true rfl⟩) (hP.sub (ws' := []) [] rfl) rfl hl.1 rfl (Nat.le_of_ble_eq_true rfl) dX5_rule_93 ⟨Nat.le_of_ble_eq_true rfl, Nat.le_of_ble_eq_true rfl⟩ ?_
      refine xIfEqB C (tgt := 108) dX5_rule_96 (by decide) (fun h_96 => ?_) (fun h_96 => ?_)
      · skip
        have i_w : inR w (nI 0) (nI 7) = false := inR_n h_11 h_96
        skip
        refine lv_bipush (v := (-2)) hx hb dX5_rule_108 (by decide) ?_
        exact xRetI hx hb hret (v := (-2)) (retS (S2 := (V, ln, P, kt, HH, HB, LL)) (by simp [opRule, h_5, t_i, h_96, i_w]) ⟨hs, sl, sv, pd, sg, td, rfl, hH, hpd, hsv⟩) hP hD hS dX5_rule_110 hlocks
      · skip
        obtain ⟨j, a_j, b_j, e_j, t_j⟩ := inR_ex h_96 (by decide) (by decide)
        rw [e_j] at hl
        skip
        have i_w : inR w (nI 0) (nI 7) = true := by rw [e_j]; exact inR_w (by omega) (by omega)
        skip
        refine lv_aload_n hx hb dX5_rule_99 rfl (lv_at hl 0 rfl) ?_
        refine lv_iload_n hx hb dX5_rule_100 rfl (lv_at hl 1 rfl) ?_
        refine lv_iload_n hx hb dX5_rule_101 rfl (lv_at hl 2 rfl) ?_
        refine xVro C hN (As := [.int (nI i), .int (nI j)]) (rest := []) (q0 := 0) (c_X5_of xl D kA a V hs sl sv pd sg kt ln td i j (by omega) (by omega)) (cwV 2 hts gX5_rule_X5_of rfl rfl rfl (by decide +kernel) ⟨Nat.le_of_ble_eq_true rfl, Nat.le_of_ble_eq_true rfl⟩) hP rfl rfl rfl rfl hl.1 rfl (Nat.le_of_ble_eq_true rfl) dX5_rule_102 ⟨Nat.le_of_ble_eq_true rfl, Nat.le_of_ble_eq_true rfl⟩ ?_
        refine lv_goto (tgt := 110) hx hb dX5_rule_105 (by decide) ?_
        exact xRetI hx hb hret (v := nI (TV V i j)) (retS (S2 := (V, ln, P, kt, HH, HB, LL)) (by simp [opRule, ruV, h_5, i_w, t_i, t_j, show j ≠ 5 by omega, show j ≠ 6 by omega, show j ≠ 7 by omega]) ⟨hs, sl, sv, pd, sg, td, rfl, hH, hpd, hsv⟩) hP hD hS dX5_rule_110 hlocks
    · rcases (show j_11 = 0 ∨ j_11 = 1 ∨ j_11 = 2 by omega) with rfl | rfl | rfl
      · refine xTabIn C (j := 5) (tgt := 36) e_11 dX5_rule_11 (by decide) (by decide) rfl (by decide) ?_
        have t_w : toN w = 5 := by rw [e_11]; rfl
        have i_w : inR w (nI 0) (nI 7) = true := by rw [e_11]; decide
        skip
        refine lv_aload_n hx hb dX5_rule_36 rfl (lv_at hl 0 rfl) ?_
        refine lv_iload_n hx hb dX5_rule_37 rfl (lv_at hl 1 rfl) ?_
        refine xWWi hS (va_runV (As := [.int (nI i)]) (rest := []) C (c_X5_isIdle xl D kA a V hs sl sv pd sg kt ln td hV hW i (by omega) A) (cwV 1 hts gX5_rule_X5_isIdle rfl rfl rfl (by decide +kernel) ⟨Nat.le_of_ble_eq_true rfl, Nat.le_of_ble_eq_true rfl⟩) (xPreVw (q0 := 0) hN hP hD (xAll hS hA) rfl rfl rfl) rfl rfl hl.1 rfl (lv_room (Nat.le_of_ble_eq_true rfl)) dX5_rule_38 ⟨Nat.le_of_ble_eq_true rfl, Nat.le_of_ble_eq_true rfl⟩) (fun r_38 u_38 H locs hq_38 hP hD hS => ?_)
        obtain ⟨rfl, g_38, rfl⟩ := hq_38
        have hP : va_P D vwCl [((a 0), .inr (5, [.ref (a 1), .ref (a 2), .int (nI kt), .ref (a 3), .ref (a 4), .ref (a 5), .int (nI ln), .ref (a 6), .int (nI td)])), ((a 1), .inl (kA 0, 169, .inl (vI V))), ((a 2), .inl (kA 0, 1014, .inl (hs))), ((a 3), .inl (kA 0, 338, .inl (sl))), ((a 4), .inl (kA 2, 2, .inl (sv))), ((a 5), .inl (kA 0, 60, .inl (pd))), ((a 6), .inl (kA 0, 5, .inl (g_38)))] H := hP
        have hD : va_D A [((a 0), .inr (5, [.ref (a 1), .ref (a 2), .int (nI kt), .ref (a 3), .ref (a 4), .ref (a 5), .int (nI ln), .ref (a 6), .int (nI td)])), ((a 1), .inl (kA 0, 169, .inl (vI V))), ((a 2), .inl (kA 0, 1014, .inl (hs))), ((a 3), .inl (kA 0, 338, .inl (sl))), ((a 4), .inl (kA 2, 2, .inl (sv))), ((a 5), .inl (kA 0, 60, .inl (pd))), ((a 6), .inl (kA 0, 5, .inl (g_38)))] := hD
        refine xIfEqB C (tgt := 48) dX5_rule_41 (by decide) (fun h_41 => ?_) (fun h_41 => ?_)
        · skip
          refine lv_iconst (v := nI 0) hx hb dX5_rule_48 (by decide) ?_
          exact xRetI hx hb hret (v := nI 0) (retS (S2 := (V, ln, P, kt, HH, HB, LL)) (by simp [opRule, ruV, idB, t_w, i_w, t_i, h_5, h_41]; rfl) ⟨hs, sl, sv, pd, g_38, td, rfl, hH, hpd, hsv⟩) hP hD hS dX5_rule_49 hlocks
        · skip
          refine lv_iconst (v := nI 1) hx hb dX5_rule_44 (by decide) ?_
          refine lv_goto (tgt := 49) hx hb dX5_rule_45 (by decide) ?_
          exact xRetI hx hb hret (v := nI 1) (retS (S2 := (V, ln, P, kt, HH, HB, LL)) (by simp [opRule, ruV, idB, t_w, i_w, t_i, h_5, h_41]; rfl) ⟨hs, sl, sv, pd, g_38, td, rfl, hH, hpd, hsv⟩) hP hD hS dX5_rule_49 hlocks
      · refine xTabIn C (j := 6) (tgt := 50) e_11 dX5_rule_11 (by decide) (by decide) rfl (by decide) ?_
        have t_w : toN w = 6 := by rw [e_11]; rfl
        have i_w : inR w (nI 0) (nI 7) = true := by rw [e_11]; decide
        skip
        refine lv_aload_n hx hb dX5_rule_50 rfl (lv_at hl 0 rfl) ?_
        refine lv_iload_n hx hb dX5_rule_51 rfl (lv_at hl 1 rfl) ?_
        refine xVro C hN (As := [.int (nI i)]) (rest := []) (q0 := 0) (c_X5_oddsOf xl D kA a V hs sl sv pd sg kt ln td hV hW i (by omega)) (cwV 1 hts gX5_rule_X5_oddsOf rfl rfl rfl (by decide +kernel) ⟨Nat.le_of_ble_eq_true rfl, Nat.le_of_ble_eq_true rfl⟩) hP rfl rfl rfl rfl hl.1 rfl (Nat.le_of_ble_eq_true rfl) dX5_rule_52 ⟨Nat.le_of_ble_eq_true rfl, Nat.le_of_ble_eq_true rfl⟩ ?_
        exact xRetI hx hb hret (v := nI (cntN (V 0) (fun j => oddT (TV V) i j))) (retS (S2 := (V, ln, P, kt, HH, HB, LL)) (by simp [opRule, ruV, h_5, t_i, t_w, i_w]) ⟨hs, sl, sv, pd, sg, td, rfl, hH, hpd, hsv⟩) hP hD hS dX5_rule_55 hlocks
      · refine xTabIn C (j := 7) (tgt := 56) e_11 dX5_rule_11 (by decide) (by decide) rfl (by decide) ?_
        have t_w : toN w = 7 := by rw [e_11]; rfl
        have i_w : inR w (nI 0) (nI 7) = true := by rw [e_11]; decide
        skip
        refine lv_aload_n hx hb dX5_rule_56 rfl (lv_at hl 0 rfl) ?_
        refine lv_iload_n hx hb dX5_rule_57 rfl (lv_at hl 1 rfl) ?_
        refine lv_iconst (v := nI 2) hx hb dX5_rule_58 (by decide) ?_
        refine xVro C hN (As := [.int (nI i), .int (nI 2)]) (rest := []) (q0 := 0) (c_X5_of xl D kA a V hs sl sv pd sg kt ln td i 2 (by omega) (by omega)) (cwV 2 hts gX5_rule_X5_of rfl rfl rfl (by decide +kernel) ⟨Nat.le_of_ble_eq_true rfl, Nat.le_of_ble_eq_true rfl⟩) hP rfl rfl rfl rfl hl.1 rfl (Nat.le_of_ble_eq_true rfl) dX5_rule_59 ⟨Nat.le_of_ble_eq_true rfl, Nat.le_of_ble_eq_true rfl⟩ ?_
        refine lv_iconst (v := nI 5) hx hb dX5_rule_62 (by decide) ?_
        have J63 : ∀ (ls : Array Slot) (_ : lv_has ls 3 [(0, .ref (a 0)), (1, .int (nI i)), (2, .int w)]), W xp xl xe (headSpec wsX5_rule { frames := 7, cells := 0, slots := 0, locals := 166 }).room xs xm ([.ref (a 0), .int x, .int w] : List Value).toArray xbe xme xc xs.heap [] 0 0 (MQ xbe (xQi D A (fun r u => r = (opRule (V, ln, P, kt, HH, HB, LL) x w).1 ∧ ModR kA a (opRule (V, ln, P, kt, HH, HB, LL) x w).2 u)) ([.ref (a 0), .int x, .int w] : List Value).toArray xs 0 0 A) (F0 xm 71 ls [.int (nI (if TV V i 2 = 5 then 5 else 1))]) := by
          intro   ls hl
          refine lv_aload_n hx hb dX5_rule_71 rfl (lv_at hl 0 rfl) ?_
          refine lv_iload_n hx hb dX5_rule_72 rfl (lv_at hl 1 rfl) ?_
          refine lv_iconst (v := nI 3) hx hb dX5_rule_73 (by decide) ?_
          refine xVro C hN (As := [.int (nI i), .int (nI 3)]) (rest := [.int (nI (if TV V i 2 = 5 then 5 else 1))]) (q0 := 0) (c_X5_of xl D kA a V hs sl sv pd sg kt ln td i 3 (by omega) (by omega)) (cwV 2 hts gX5_rule_X5_of rfl rfl rfl (by decide +kernel) ⟨Nat.le_of_ble_eq_true rfl, Nat.le_of_ble_eq_true rfl⟩) hP rfl rfl rfl rfl hl.1 rfl (Nat.le_of_ble_eq_true rfl) dX5_rule_74 ⟨Nat.le_of_ble_eq_true rfl, Nat.le_of_ble_eq_true rfl⟩ ?_
          refine lv_bipush (v := nI 6) hx hb dX5_rule_77 (by decide) ?_
          have J79 : ∀ (ls : Array Slot) (_ : lv_has ls 3 [(0, .ref (a 0)), (1, .int (nI i)), (2, .int w)]), W xp xl xe (headSpec wsX5_rule { frames := 7, cells := 0, slots := 0, locals := 166 }).room xs xm ([.ref (a 0), .int x, .int w] : List Value).toArray xbe xme xc xs.heap [] 0 0 (MQ xbe (xQi D A (fun r u => r = (opRule (V, ln, P, kt, HH, HB, LL) x w).1 ∧ ModR kA a (opRule (V, ln, P, kt, HH, HB, LL) x w).2 u)) ([.ref (a 0), .int x, .int w] : List Value).toArray xs 0 0 A) (F0 xm 88 ls [.int (nI (if TV V i 3 = 6 then 6 else 1)), .int (nI (if TV V i 2 = 5 then 5 else 1))]) := by
            intro   ls hl
            refine xImul C dX5_rule_88 ?_
            exact xRetI hx hb hret (v := nI ((if TV V i 2 = 5 then 5 else 1) * (if TV V i 3 = 6 then 6 else 1))) (retS (S2 := (V, ln, P, kt, HH, HB, LL)) (by simp [opRule, ruV, t_w, i_w, t_i, h_5]) ⟨hs, sl, sv, pd, sg, td, rfl, hH, hpd, hsv⟩) hP hD hS dX5_rule_89 hlocks
          refine xIcmpNe C (tgt := 87) (by have := hW i (by omega); omega) (by decide) dX5_rule_79 (by decide) (fun h_79 => ?_) (fun h_79 => ?_)
          · skip
            refine lv_iconst (v := nI 1) hx hb dX5_rule_87 (by decide) ?_
            refine xTop (y := nI (if TV V i 3 = 6 then 6 else 1)) (by rw [if_neg h_79]) ?_
            exact J79   _ (lv_sub hl [0, 1, 2] rfl)
          · skip
            refine lv_bipush (v := nI 6) hx hb dX5_rule_82 (by decide) ?_
            refine xTop (y := nI (if TV V i 3 = 6 then 6 else 1)) (by rw [if_pos h_79]) ?_
            refine lv_goto (tgt := 88) hx hb dX5_rule_84 (by decide) ?_
            exact J79   _ (lv_sub hl [0, 1, 2] rfl)
        refine xIcmpNe C (tgt := 70) (by have := hW i (by omega); omega) (by decide) dX5_rule_63 (by decide) (fun h_63 => ?_) (fun h_63 => ?_)
        · skip
          refine lv_iconst (v := nI 1) hx hb dX5_rule_70 (by decide) ?_
          refine xTop (y := nI (if TV V i 2 = 5 then 5 else 1)) (by rw [if_neg h_63]) ?_
          exact J63   _ (lv_sub hl [0, 1, 2] rfl)
        · skip
          refine lv_iconst (v := nI 5) hx hb dX5_rule_66 (by decide) ?_
          refine xTop (y := nI (if TV V i 2 = 5 then 5 else 1)) (by rw [if_pos h_63]) ?_
          refine lv_goto (tgt := 71) hx hb dX5_rule_67 (by decide) ?_
          exact J63   _ (lv_sub hl [0, 1, 2] rfl)
  · skip
    refine lv_iconst (v := (-1)) hx hb dX5_rule_8 (by decide) ?_
    exact xRetI hx hb hret (v := (-1)) (retS (S2 := (V, ln, P, kt, HH, HB, LL)) (by simp [opRule, h_5]) ⟨hs, sl, sv, pd, sg, td, rfl, hH, hpd, hsv⟩) hP hD hS dX5_rule_9 hlocks

set_option maxHeartbeats 8000000 in
set_option maxRecDepth 100000 in
theorem c_X5_member (xl : Launch) (D : va_G) (kA : Nat → ClassId) (a : Nat → Nat) (V : Nat → Nat) (hs sl sv pd sg : Nat → Int32) (kt ln td : Nat) (P : Nat → Nat) (HH : Nat → Nat → Nat) (HB : Nat → Bool) (LL : Nat → Nat → Nat) (hI : InvS (V, ln, P, kt, HH, HB, LL)) (hH : relH hs kt HH) (hpd : relP pd ln P) (hsv : relS sv sl HB LL) (x w : Int32) (A : Nat → Prop) : Met xl yX5_member wsX5_member { frames := 7, cells := 0, slots := 0, locals := 166 } (va_Pc [.ref (a 0), .int x, .int w] (xPw D kA A [((a 0), .inr (5, [.ref (a 1), .ref (a 2), .int (nI kt), .ref (a 3), .ref (a 4), .ref (a 5), .int (nI ln), .ref (a 6), .int (nI td)])), ((a 1), .inl (kA 0, 169, .inl (vI V))), ((a 2), .inl (kA 0, 1014, .inl (hs))), ((a 3), .inl (kA 0, 338, .inl (sl))), ((a 4), .inl (kA 2, 2, .inl (sv))), ((a 5), .inl (kA 0, 60, .inl (pd))), ((a 6), .inl (kA 0, 5, .inl (sg)))])) (xQi D A (fun r u => r = (opMember (V, ln, P, kt, HH, HB, LL) x w).1 ∧ ModR kA a (opMember (V, ln, P, kt, HH, HB, LL) x w).2 u)) 0 0 A := by
  refine Met.ofW (cc := cX5_member) (maxL := 3) (ret := (some .int)) (by decide) rfl ?_
  intro xp xe xs xm args xbe xme xc s₁ B hml hv
  obtain ⟨rfl, hP, hN, hD, hA⟩ := hv
  have hret := B.returns
  have C : CallFix xp xm xc cX5_member 3 xs ([.ref (a 0), .int x, .int w] : List Value).toArray wsX5_member RX5 := ⟨B.exec, B.bytes, hml, findClass_of_methodNamed B.named, atoms_spec (ws := wsX5_member) B.pre⟩
  have hlocks := B.notSynchronized
  obtain ⟨hx, hb, _, hown, hts⟩ := id C
  have hS : va_S A xs.heap xs.heap [] := va_S.rf
  have hl := lv_entry ([.ref (a 0), .int x, .int w]) (n := 3) (Nat.le_of_ble_eq_true rfl)
  rw [lg_entry_eq]
  generalize (lg_sl ([.ref (a 0), .int x, .int w]) ++ List.replicate (3 - (lg_sl ([.ref (a 0), .int x, .int w])).length) Slot.unset).toArray = ls at hl ⊢
  have hl : lv_has ls 3 [(0, .ref (a 0)), (1, .int x), (2, .int w)] := hl
  obtain ⟨⟨hV, hW, hM, hG⟩, hm, hwP, hk, hIH, hIL⟩ := hI
  refine lv_aload_n hx hb dX5_member_0 rfl (lv_at hl 0 rfl) ?_
  refine lv_iload_n hx hb dX5_member_1 rfl (lv_at hl 1 rfl) ?_
  refine xVro C hN (As := [.int x]) (rest := []) (q0 := 0) (c_X5_isMember xl D kA a V hs sl sv pd sg kt ln td hV hW hM x) (cwV 1 hts gX5_member_X5_isMember rfl rfl rfl (by decide +kernel) ⟨Nat.le_of_ble_eq_true rfl, Nat.le_of_ble_eq_true rfl⟩) hP rfl rfl rfl rfl hl.1 rfl (Nat.le_of_ble_eq_true rfl) dX5_member_2 ⟨Nat.le_of_ble_eq_true rfl, Nat.le_of_ble_eq_true rfl⟩ ?_
  refine xIfNeB C (tgt := 10) dX5_member_5 (by decide) (fun h_5 => ?_) (fun h_5 => ?_)
  · skip
    obtain ⟨i, a_i, e_i, t_i⟩ := hasB_ex h_5 (by omega)
    rw [e_i] at hl
    skip
    refine lv_iload_n hx hb dX5_member_10 rfl (lv_at hl 2 rfl) ?_
    rcases xTab (x := w) 0 5 (by decide) with h_11 | ⟨j_11, hj_11, e_11⟩
    · refine lv_tableOut (tgt := 74) hx hb dX5_member_11 (by omega) (by decide) ?_
      have i_w : inR w (nI 0) (nI 4) = false := inR_o h_11
      skip
      refine lv_bipush (v := (-2)) hx hb dX5_member_74 (by decide) ?_
      exact xRetI hx hb hret (v := (-2)) (retS (S2 := (V, ln, P, kt, HH, HB, LL)) (by simp [opMember, h_5, t_i, i_w]) ⟨hs, sl, sv, pd, sg, td, rfl, hH, hpd, hsv⟩) hP hD hS dX5_member_76 hlocks
    · rcases (show j_11 = 0 ∨ j_11 = 1 ∨ j_11 = 2 ∨ j_11 = 3 ∨ j_11 = 4 by omega) with rfl | rfl | rfl | rfl | rfl
      · refine xTabIn C (j := 0) (tgt := 44) e_11 dX5_member_11 (by decide) (by decide) rfl (by decide) ?_
        have t_w : toN w = 0 := by rw [e_11]; rfl
        have i_w : inR w (nI 0) (nI 4) = true := by rw [e_11]; decide
        rw [e_11] at hl
        skip
        refine lv_aload_n hx hb dX5_member_44 rfl (lv_at hl 0 rfl) ?_
        refine xGet C hN hP 0 (j := 0) rfl rfl iX5_member_X5 (by decide) kX5_member_7 rfl rfl dX5_member_45 ?_
        refine lv_iload_n hx hb dX5_member_48 rfl (lv_at hl 1 rfl) ?_
        refine lv_iload_n hx hb dX5_member_49 rfl (lv_at hl 2 rfl) ?_
        refine xSro C hN (As := [.int (nI i), .int (nI 0)]) (rest := [.ref (a 1)]) (c_X5_ofGuild xl D kA i 0) (va_cwS 2 hts gX5_member_X5_ofGuild rfl rfl rfl (by decide +kernel) ⟨Nat.le_of_ble_eq_true rfl, Nat.le_of_ble_eq_true rfl⟩) (hP.sub (ws' := []) [] rfl) rfl hl.1 rfl (Nat.le_of_ble_eq_true rfl) dX5_member_50 ⟨Nat.le_of_ble_eq_true rfl, Nat.le_of_ble_eq_true rfl⟩ ?_
        refine xIald C hN hP 1 (j := 129 + 4 * i + 0) (v := nI (V (129 + 4 * i + 0))) rfl (by omega) (by decide) (rfl) dX5_member_53 ?_
        exact xRetI hx hb hret (v := nI (V (129 + 4 * i + 0))) (retS (S2 := (V, ln, P, kt, HH, HB, LL)) (by simp [opMember, meV, h_5, t_i, t_w, i_w]) ⟨hs, sl, sv, pd, sg, td, rfl, hH, hpd, hsv⟩) hP hD hS dX5_member_54 hlocks
      · refine xTabIn C (j := 1) (tgt := 44) e_11 dX5_member_11 (by decide) (by decide) rfl (by decide) ?_
        have t_w : toN w = 1 := by rw [e_11]; rfl
        have i_w : inR w (nI 0) (nI 4) = true := by rw [e_11]; decide
        rw [e_11] at hl
        skip
        refine lv_aload_n hx hb dX5_member_44 rfl (lv_at hl 0 rfl) ?_
        refine xGet C hN hP 0 (j := 0) rfl rfl iX5_member_X5 (by decide) kX5_member_7 rfl rfl dX5_member_45 ?_
        refine lv_iload_n hx hb dX5_member_48 rfl (lv_at hl 1 rfl) ?_
        refine lv_iload_n hx hb dX5_member_49 rfl (lv_at hl 2 rfl) ?_
        refine xSro C hN (As := [.int (nI i), .int (nI 1)]) (rest := [.ref (a 1)]) (c_X5_ofGuild xl D kA i 1) (va_cwS 2 hts gX5_member_X5_ofGuild rfl rfl rfl (by decide +kernel) ⟨Nat.le_of_ble_eq_true rfl, Nat.le_of_ble_eq_true rfl⟩) (hP.sub (ws' := []) [] rfl) rfl hl.1 rfl (Nat.le_of_ble_eq_true rfl) dX5_member_50 ⟨Nat.le_of_ble_eq_true rfl, Nat.le_of_ble_eq_true rfl⟩ ?_
        refine xIald C hN hP 1 (j := 129 + 4 * i + 1) (v := nI (V (129 + 4 * i + 1))) rfl (by omega) (by decide) (rfl) dX5_member_53 ?_
        exact xRetI hx hb hret (v := nI (V (129 + 4 * i + 1))) (retS (S2 := (V, ln, P, kt, HH, HB, LL)) (by simp [opMember, meV, h_5, t_i, t_w, i_w]) ⟨hs, sl, sv, pd, sg, td, rfl, hH, hpd, hsv⟩) hP hD hS dX5_member_54 hlocks
      · refine xTabIn C (j := 2) (tgt := 55) e_11 dX5_member_11 (by decide) (by decide) rfl (by decide) ?_
        have t_w : toN w = 2 := by rw [e_11]; rfl
        have i_w : inR w (nI 0) (nI 4) = true := by rw [e_11]; decide
        rw [e_11] at hl
        skip
        refine lv_aload_n hx hb dX5_member_55 rfl (lv_at hl 0 rfl) ?_
        refine lv_iload_n hx hb dX5_member_56 rfl (lv_at hl 1 rfl) ?_
        refine xWWi hS (va_runV (As := [.int (nI i)]) (rest := []) C (c_X5_mayDo xl D kA a V hs sl sv pd sg kt ln td hV hW i (by omega) (hG i (by omega)).1 (hG i (by omega)).2 A) (cwV 1 hts gX5_member_X5_mayDo rfl rfl rfl (by decide +kernel) ⟨Nat.le_of_ble_eq_true rfl, Nat.le_of_ble_eq_true rfl⟩) (xPreVw (q0 := 0) hN hP hD (xAll hS hA) rfl rfl rfl) rfl rfl hl.1 rfl (lv_room (Nat.le_of_ble_eq_true rfl)) dX5_member_57 ⟨Nat.le_of_ble_eq_true rfl, Nat.le_of_ble_eq_true rfl⟩) (fun r_57 u_57 H locs hq_57 hP hD hS => ?_)
        obtain ⟨rfl, g_57, rfl⟩ := hq_57
        have hP : va_P D vwCl [((a 0), .inr (5, [.ref (a 1), .ref (a 2), .int (nI kt), .ref (a 3), .ref (a 4), .ref (a 5), .int (nI ln), .ref (a 6), .int (nI td)])), ((a 1), .inl (kA 0, 169, .inl (vI V))), ((a 2), .inl (kA 0, 1014, .inl (hs))), ((a 3), .inl (kA 0, 338, .inl (sl))), ((a 4), .inl (kA 2, 2, .inl (sv))), ((a 5), .inl (kA 0, 60, .inl (pd))), ((a 6), .inl (kA 0, 5, .inl (g_57)))] H := hP
        have hD : va_D A [((a 0), .inr (5, [.ref (a 1), .ref (a 2), .int (nI kt), .ref (a 3), .ref (a 4), .ref (a 5), .int (nI ln), .ref (a 6), .int (nI td)])), ((a 1), .inl (kA 0, 169, .inl (vI V))), ((a 2), .inl (kA 0, 1014, .inl (hs))), ((a 3), .inl (kA 0, 338, .inl (sl))), ((a 4), .inl (kA 2, 2, .inl (sv))), ((a 5), .inl (kA 0, 60, .inl (pd))), ((a 6), .inl (kA 0, 5, .inl (g_57)))] := hD
        exact xRetI hx hb hret (v := nI (mdM V i)) (retS (S2 := (V, ln, P, kt, HH, HB, LL)) (by simp [opMember, meV, h_5, t_i, t_w, i_w]) ⟨hs, sl, sv, pd, g_57, td, rfl, hH, hpd, hsv⟩) hP hD hS dX5_member_60 hlocks
      · refine xTabIn C (j := 3) (tgt := 61) e_11 dX5_member_11 (by decide) (by decide) rfl (by decide) ?_
        have t_w : toN w = 3 := by rw [e_11]; rfl
        have i_w : inR w (nI 0) (nI 4) = true := by rw [e_11]; decide
        rw [e_11] at hl
        skip
        refine lv_aload_n hx hb dX5_member_61 rfl (lv_at hl 0 rfl) ?_
        refine xGet C hN hP 0 (j := 0) rfl rfl iX5_member_X5 (by decide) kX5_member_7 rfl rfl dX5_member_62 ?_
        refine lv_iload_n hx hb dX5_member_65 rfl (lv_at hl 1 rfl) ?_
        refine lv_iload_n hx hb dX5_member_66 rfl (lv_at hl 2 rfl) ?_
        refine lv_iconst (v := nI 1) hx hb dX5_member_67 (by decide) ?_
        refine xIsub C (by omega) dX5_member_68 ?_
        refine xSro C hN (As := [.int (nI i), .int (nI (3 - 1))]) (rest := [.ref (a 1)]) (c_X5_ofGuild xl D kA i (3 - 1)) (va_cwS 2 hts gX5_member_X5_ofGuild rfl rfl rfl (by decide +kernel) ⟨Nat.le_of_ble_eq_true rfl, Nat.le_of_ble_eq_true rfl⟩) (hP.sub (ws' := []) [] rfl) rfl hl.1 rfl (Nat.le_of_ble_eq_true rfl) dX5_member_69 ⟨Nat.le_of_ble_eq_true rfl, Nat.le_of_ble_eq_true rfl⟩ ?_
        refine xIald C hN hP 1 (j := 129 + 4 * i + (3 - 1)) (v := nI (V (129 + 4 * i + (3 - 1)))) rfl (by omega) (by decide) (rfl) dX5_member_72 ?_
        exact xRetI hx hb hret (v := nI (V (129 + 4 * i + (3 - 1)))) (retS (S2 := (V, ln, P, kt, HH, HB, LL)) (by simp [opMember, meV, h_5, t_i, t_w, i_w]) ⟨hs, sl, sv, pd, sg, td, rfl, hH, hpd, hsv⟩) hP hD hS dX5_member_73 hlocks
      · refine xTabIn C (j := 4) (tgt := 61) e_11 dX5_member_11 (by decide) (by decide) rfl (by decide) ?_
        have t_w : toN w = 4 := by rw [e_11]; rfl
        have i_w : inR w (nI 0) (nI 4) = true := by rw [e_11]; decide
        rw [e_11] at hl
        skip
        refine lv_aload_n hx hb dX5_member_61 rfl (lv_at hl 0 rfl) ?_
        refine xGet C hN hP 0 (j := 0) rfl rfl iX5_member_X5 (by decide) kX5_member_7 rfl rfl dX5_member_62 ?_
        refine lv_iload_n hx hb dX5_member_65 rfl (lv_at hl 1 rfl) ?_
        refine lv_iload_n hx hb dX5_member_66 rfl (lv_at hl 2 rfl) ?_
        refine lv_iconst (v := nI 1) hx hb dX5_member_67 (by decide) ?_
        refine xIsub C (by omega) dX5_member_68 ?_
        refine xSro C hN (As := [.int (nI i), .int (nI (4 - 1))]) (rest := [.ref (a 1)]) (c_X5_ofGuild xl D kA i (4 - 1)) (va_cwS 2 hts gX5_member_X5_ofGuild rfl rfl rfl (by decide +kernel) ⟨Nat.le_of_ble_eq_true rfl, Nat.le_of_ble_eq_true rfl⟩) (hP.sub (ws' := []) [] rfl) rfl hl.1 rfl (Nat.le_of_ble_eq_true rfl) dX5_member_69 ⟨Nat.le_of_ble_eq_true rfl, Nat.le_of_ble_eq_true rfl⟩ ?_
        refine xIald C hN hP 1 (j := 129 + 4 * i + (4 - 1)) (v := nI (V (129 + 4 * i + (4 - 1)))) rfl (by omega) (by decide) (rfl) dX5_member_72 ?_
        exact xRetI hx hb hret (v := nI (V (129 + 4 * i + (4 - 1)))) (retS (S2 := (V, ln, P, kt, HH, HB, LL)) (by simp [opMember, meV, h_5, t_i, t_w, i_w]) ⟨hs, sl, sv, pd, sg, td, rfl, hH, hpd, hsv⟩) hP hD hS dX5_member_73 hlocks
  · skip
    refine lv_iconst (v := (-1)) hx hb dX5_member_8 (by decide) ?_
    exact xRetI hx hb hret (v := (-1)) (retS (S2 := (V, ln, P, kt, HH, HB, LL)) (by simp [opMember, h_5]) ⟨hs, sl, sv, pd, sg, td, rfl, hH, hpd, hsv⟩) hP hD hS dX5_member_9 hlocks

set_option maxHeartbeats 8000000 in
set_option maxRecDepth 100000 in
theorem c_X5_allowed (xl : Launch) (D : va_G) (kA : Nat → ClassId) (a : Nat → Nat) (V : Nat → Nat) (hs sl sv pd sg : Nat → Int32) (kt ln td : Nat) (P : Nat → Nat) (HH : Nat → Nat → Nat) (HB : Nat → Bool) (LL : Nat → Nat → Nat) (hI : InvS (V, ln, P, kt, HH, HB, LL)) (hH : relH hs kt HH) (hpd : relP pd ln P) (hsv : relS sv sl HB LL) (c d y w : Int32) (A : Nat → Prop) : Met xl yX5_allowed wsX5_allowed { frames := 6, cells := 0, slots := 0, locals := 143 } (va_Pc [.ref (a 0), .int c, .int d, .int y, .int w] (xPw D kA A [((a 0), .inr (5, [.ref (a 1), .ref (a 2), .int (nI kt), .ref (a 3), .ref (a 4), .ref (a 5), .int (nI ln), .ref (a 6), .int (nI td)])), ((a 1), .inl (kA 0, 169, .inl (vI V))), ((a 2), .inl (kA 0, 1014, .inl (hs))), ((a 3), .inl (kA 0, 338, .inl (sl))), ((a 4), .inl (kA 2, 2, .inl (sv))), ((a 5), .inl (kA 0, 60, .inl (pd))), ((a 6), .inl (kA 0, 5, .inl (sg)))])) (xQi D A (fun r u => r = (opAllowed (V, ln, P, kt, HH, HB, LL) c d y w).1 ∧ ModR kA a (opAllowed (V, ln, P, kt, HH, HB, LL) c d y w).2 u)) 0 0 A := by
  refine Met.ofW (cc := cX5_allowed) (maxL := 5) (ret := (some .int)) (by decide) rfl ?_
  intro xp xe xs xm args xbe xme xc s₁ B hml hv
  obtain ⟨rfl, hP, hN, hD, hA⟩ := hv
  have hret := B.returns
  have C : CallFix xp xm xc cX5_allowed 5 xs ([.ref (a 0), .int c, .int d, .int y, .int w] : List Value).toArray wsX5_allowed RX5 := ⟨B.exec, B.bytes, hml, findClass_of_methodNamed B.named, atoms_spec (ws := wsX5_allowed) B.pre⟩
  have hlocks := B.notSynchronized
  obtain ⟨hx, hb, _, hown, hts⟩ := id C
  have hS : va_S A xs.heap xs.heap [] := va_S.rf
  have hl := lv_entry ([.ref (a 0), .int c, .int d, .int y, .int w]) (n := 5) (Nat.le_of_ble_eq_true rfl)
  rw [lg_entry_eq]
  generalize (lg_sl ([.ref (a 0), .int c, .int d, .int y, .int w]) ++ List.replicate (5 - (lg_sl ([.ref (a 0), .int c, .int d, .int y, .int w])).length) Slot.unset).toArray = ls at hl ⊢
  have hl : lv_has ls 5 [(0, .ref (a 0)), (1, .int c), (2, .int d), (3, .int y), (4, .int w)] := hl
  obtain ⟨⟨hV, hW, hM, hG⟩, hm, hwP, hk, hIH, hIL⟩ := hI
  refine lv_iload_n hx hb dX5_allowed_0 rfl (lv_at hl 1 rfl) ?_
  refine lv_iload_n hx hb dX5_allowed_1 rfl (lv_at hl 2 rfl) ?_
  refine xSro C hN (As := [.int c, .int d]) (rest := []) (c_X5_isAsked xl D kA c d) (va_cwS 2 hts gX5_allowed_X5_isAsked rfl rfl rfl (by decide +kernel) ⟨Nat.le_of_ble_eq_true rfl, Nat.le_of_ble_eq_true rfl⟩) (hP.sub (ws' := []) [] rfl) rfl hl.1 rfl (Nat.le_of_ble_eq_true rfl) dX5_allowed_2 ⟨Nat.le_of_ble_eq_true rfl, Nat.le_of_ble_eq_true rfl⟩ ?_
  refine xIfNeB C (tgt := 10) dX5_allowed_5 (by decide) (fun h_5 => ?_) (fun h_5 => ?_)
  · skip
    have g_5 := (Bool.and_eq_true _ _).mp h_5
    have g1 := g_5.1
    have g2 := g_5.2
    skip
    obtain ⟨c1, a_c1, b_c1, e_c1, t_c1⟩ := inR_ex g1 (by decide) (by decide)
    rw [e_c1] at hl
    skip
    obtain ⟨d1, a_d1, b_d1, e_d1, t_d1⟩ := inR_ex g2 (by decide) (by decide)
    rw [e_d1] at hl
    skip
    refine lv_iload_n hx hb dX5_allowed_10 rfl (lv_at hl 3 rfl) ?_
    refine lv_iconst (v := nI 0) hx hb dX5_allowed_11 (by decide) ?_
    refine lv_bipush (v := nI 9) hx hb dX5_allowed_12 (by decide) ?_
    refine xSro C hN (As := [.int y, .int (nI 0), .int (nI 9)]) (rest := []) (c_X5_in xl D kA y (nI 0) (nI 9)) (va_cwS 3 hts gX5_allowed_X5_in rfl rfl rfl (by decide +kernel) ⟨Nat.le_of_ble_eq_true rfl, Nat.le_of_ble_eq_true rfl⟩) (hP.sub (ws' := []) [] rfl) rfl hl.1 rfl (Nat.le_of_ble_eq_true rfl) dX5_allowed_14 ⟨Nat.le_of_ble_eq_true rfl, Nat.le_of_ble_eq_true rfl⟩ ?_
    refine xIfEqB C (tgt := 30) dX5_allowed_17 (by decide) (fun h_17 => ?_) (fun h_17 => ?_)
    · skip
      refine lv_bipush (v := (-2)) hx hb dX5_allowed_30 (by decide) ?_
      exact xRetI hx hb hret (v := (-2)) (retS (S2 := (V, ln, P, kt, HH, HB, LL)) (by simp [opAllowed, h_5, g1, g2, t_c1, t_d1, h_17]) ⟨hs, sl, sv, pd, sg, td, rfl, hH, hpd, hsv⟩) hP hD hS dX5_allowed_32 hlocks
    · skip
      refine lv_iload hx hb dX5_allowed_20 (lv_at hl 4 rfl) ?_
      refine lv_iconst (v := nI 0) hx hb dX5_allowed_22 (by decide) ?_
      refine lv_iconst (v := nI 1) hx hb dX5_allowed_23 (by decide) ?_
      refine xSro C hN (As := [.int w, .int (nI 0), .int (nI 1)]) (rest := []) (c_X5_in xl D kA w (nI 0) (nI 1)) (va_cwS 3 hts gX5_allowed_X5_in rfl rfl rfl (by decide +kernel) ⟨Nat.le_of_ble_eq_true rfl, Nat.le_of_ble_eq_true rfl⟩) (hP.sub (ws' := []) [] rfl) rfl hl.1 rfl (Nat.le_of_ble_eq_true rfl) dX5_allowed_24 ⟨Nat.le_of_ble_eq_true rfl, Nat.le_of_ble_eq_true rfl⟩ ?_
      refine xIfNeB C (tgt := 33) dX5_allowed_27 (by decide) (fun h_27 => ?_) (fun h_27 => ?_)
      · skip
        obtain ⟨r1, a_r1, b_r1, e_r1, t_r1⟩ := inR_ex h_17 (by decide) (by decide)
        rw [e_r1] at hl
        skip
        refine lv_iload_n hx hb dX5_allowed_33 rfl (lv_at hl 3 rfl) ?_
        refine lv_aload_n hx hb dX5_allowed_34 rfl (lv_at hl 0 rfl) ?_
        refine lv_iload_n hx hb dX5_allowed_35 rfl (lv_at hl 1 rfl) ?_
        refine lv_iload_n hx hb dX5_allowed_36 rfl (lv_at hl 2 rfl) ?_
        refine xWWi hS (va_runV (As := [.int (nI c1), .int (nI d1)]) (rest := [.int (nI r1)]) C (c_X5_leastNow xl D kA a V hs sl sv pd sg kt ln td hV hW c1 d1 (by omega) (by omega) A) (cwV 2 hts gX5_allowed_X5_leastNow rfl rfl rfl (by decide +kernel) ⟨Nat.le_of_ble_eq_true rfl, Nat.le_of_ble_eq_true rfl⟩) (xPreVw (q0 := 0) hN hP hD (xAll hS hA) rfl rfl rfl) rfl rfl hl.1 rfl (lv_room (Nat.le_of_ble_eq_true rfl)) dX5_allowed_37 ⟨Nat.le_of_ble_eq_true rfl, Nat.le_of_ble_eq_true rfl⟩) (fun r_37 u_37 H locs hq_37 hP hD hS => ?_)
        obtain ⟨rfl, g_37, rfl, hg_37⟩ := hq_37
        have hP : va_P D vwCl [((a 0), .inr (5, [.ref (a 1), .ref (a 2), .int (nI kt), .ref (a 3), .ref (a 4), .ref (a 5), .int (nI ln), .ref (a 6), .int (nI td)])), ((a 1), .inl (kA 0, 169, .inl (vI V))), ((a 2), .inl (kA 0, 1014, .inl (hs))), ((a 3), .inl (kA 0, 338, .inl (sl))), ((a 4), .inl (kA 2, 2, .inl (sv))), ((a 5), .inl (kA 0, 60, .inl (pd))), ((a 6), .inl (kA 0, 5, .inl (g_37)))] H := hP
        have hD : va_D A [((a 0), .inr (5, [.ref (a 1), .ref (a 2), .int (nI kt), .ref (a 3), .ref (a 4), .ref (a 5), .int (nI ln), .ref (a 6), .int (nI td)])), ((a 1), .inl (kA 0, 169, .inl (vI V))), ((a 2), .inl (kA 0, 1014, .inl (hs))), ((a 3), .inl (kA 0, 338, .inl (sl))), ((a 4), .inl (kA 2, 2, .inl (sv))), ((a 5), .inl (kA 0, 60, .inl (pd))), ((a 6), .inl (kA 0, 5, .inl (g_37)))] := hD
        refine xTop (y := nI (lstT (V 0) (TV V) c1 d1)) (congrArg nI (lstM_now hW (by omega))) ?_
        refine xIcmpLt C (tgt := 47) (by omega) (by have := lstM_le (c := c1) (d := d1) (bu := -6) (ly := -6) (se := 0) hW; rw [lstM_now hW (by omega)] at this; omega) dX5_allowed_40 (by decide) (fun h_40 => ?_) (fun h_40 => ?_)
        · skip
          refine lv_iconst (v := nI 0) hx hb dX5_allowed_47 (by decide) ?_
          exact xRetI hx hb hret (v := nI 0) (retS (S2 := (V, ln, P, kt, HH, HB, LL)) (by simp [opAllowed, g1, g2, h_17, h_27, t_c1, t_d1, t_r1, show ¬ lstT (V 0) (TV V) c1 d1 ≤ r1 by omega]; rfl) ⟨hs, sl, sv, pd, g_37, td, rfl, hH, hpd, hsv⟩) hP hD hS dX5_allowed_48 hlocks
        · skip
          refine lv_iconst (v := nI 1) hx hb dX5_allowed_43 (by decide) ?_
          refine lv_goto (tgt := 48) hx hb dX5_allowed_44 (by decide) ?_
          exact xRetI hx hb hret (v := nI 1) (retS (S2 := (V, ln, P, kt, HH, HB, LL)) (by simp [opAllowed, g1, g2, h_17, h_27, t_c1, t_d1, t_r1, h_40]; rfl) ⟨hs, sl, sv, pd, g_37, td, rfl, hH, hpd, hsv⟩) hP hD hS dX5_allowed_48 hlocks
      · skip
        refine lv_bipush (v := (-2)) hx hb dX5_allowed_30 (by decide) ?_
        exact xRetI hx hb hret (v := (-2)) (retS (S2 := (V, ln, P, kt, HH, HB, LL)) (by simp [opAllowed, h_5, g1, g2, t_c1, t_d1, h_17, h_27]) ⟨hs, sl, sv, pd, sg, td, rfl, hH, hpd, hsv⟩) hP hD hS dX5_allowed_32 hlocks
  · skip
    refine lv_iconst (v := (-1)) hx hb dX5_allowed_8 (by decide) ?_
    exact xRetI hx hb hret (v := (-1)) (retS (S2 := (V, ln, P, kt, HH, HB, LL)) (by simp [opAllowed, h_5]) ⟨hs, sl, sv, pd, sg, td, rfl, hH, hpd, hsv⟩) hP hD hS dX5_allowed_9 hlocks

set_option maxHeartbeats 8000000 in
set_option maxRecDepth 100000 in
theorem c_X5_why (xl : Launch) (D : va_G) (kA : Nat → ClassId) (a : Nat → Nat) (V : Nat → Nat) (hs sl sv pd sg : Nat → Int32) (kt ln td : Nat) (P : Nat → Nat) (HH : Nat → Nat → Nat) (HB : Nat → Bool) (LL : Nat → Nat → Nat) (hI : InvS (V, ln, P, kt, HH, HB, LL)) (hH : relH hs kt HH) (hpd : relP pd ln P) (hsv : relS sv sl HB LL) (c d y : Int32) (A : Nat → Prop) : Met xl yX5_why wsX5_why { frames := 7, cells := 0, slots := 0, locals := 170 } (va_Pc [.ref (a 0), .int c, .int d, .int y] (xPw D kA A [((a 0), .inr (5, [.ref (a 1), .ref (a 2), .int (nI kt), .ref (a 3), .ref (a 4), .ref (a 5), .int (nI ln), .ref (a 6), .int (nI td)])), ((a 1), .inl (kA 0, 169, .inl (vI V))), ((a 2), .inl (kA 0, 1014, .inl (hs))), ((a 3), .inl (kA 0, 338, .inl (sl))), ((a 4), .inl (kA 2, 2, .inl (sv))), ((a 5), .inl (kA 0, 60, .inl (pd))), ((a 6), .inl (kA 0, 5, .inl (sg)))])) (xQi D A (fun r u => r = (opWhy (V, ln, P, kt, HH, HB, LL) c d y).1 ∧ ModR kA a (opWhy (V, ln, P, kt, HH, HB, LL) c d y).2 u)) 0 0 A := by
  refine Met.ofW (cc := cX5_why) (maxL := 4) (ret := (some .int)) (by decide) rfl ?_
  intro xp xe xs xm args xbe xme xc s₁ B hml hv
  obtain ⟨rfl, hP, hN, hD, hA⟩ := hv
  have hret := B.returns
  have C : CallFix xp xm xc cX5_why 4 xs ([.ref (a 0), .int c, .int d, .int y] : List Value).toArray wsX5_why RX5 := ⟨B.exec, B.bytes, hml, findClass_of_methodNamed B.named, atoms_spec (ws := wsX5_why) B.pre⟩
  have hlocks := B.notSynchronized
  obtain ⟨hx, hb, _, hown, hts⟩ := id C
  have hS : va_S A xs.heap xs.heap [] := va_S.rf
  have hl := lv_entry ([.ref (a 0), .int c, .int d, .int y]) (n := 4) (Nat.le_of_ble_eq_true rfl)
  rw [lg_entry_eq]
  generalize (lg_sl ([.ref (a 0), .int c, .int d, .int y]) ++ List.replicate (4 - (lg_sl ([.ref (a 0), .int c, .int d, .int y])).length) Slot.unset).toArray = ls at hl ⊢
  have hl : lv_has ls 4 [(0, .ref (a 0)), (1, .int c), (2, .int d), (3, .int y)] := hl
  obtain ⟨⟨hV, hW, hM, hG⟩, hm, hwP, hk, hIH, hIL⟩ := hI
  refine lv_iload_n hx hb dX5_why_0 rfl (lv_at hl 1 rfl) ?_
  refine lv_iload_n hx hb dX5_why_1 rfl (lv_at hl 2 rfl) ?_
  refine xSro C hN (As := [.int c, .int d]) (rest := []) (c_X5_isAsked xl D kA c d) (va_cwS 2 hts gX5_why_X5_isAsked rfl rfl rfl (by decide +kernel) ⟨Nat.le_of_ble_eq_true rfl, Nat.le_of_ble_eq_true rfl⟩) (hP.sub (ws' := []) [] rfl) rfl hl.1 rfl (Nat.le_of_ble_eq_true rfl) dX5_why_2 ⟨Nat.le_of_ble_eq_true rfl, Nat.le_of_ble_eq_true rfl⟩ ?_
  refine xIfNeB C (tgt := 10) dX5_why_5 (by decide) (fun h_5 => ?_) (fun h_5 => ?_)
  · skip
    have g_5 := (Bool.and_eq_true _ _).mp h_5
    have g1 := g_5.1
    have g2 := g_5.2
    skip
    obtain ⟨c1, a_c1, b_c1, e_c1, t_c1⟩ := inR_ex g1 (by decide) (by decide)
    rw [e_c1] at hl
    skip
    obtain ⟨d1, a_d1, b_d1, e_d1, t_d1⟩ := inR_ex g2 (by decide) (by decide)
    rw [e_d1] at hl
    skip
    refine lv_iload_n hx hb dX5_why_10 rfl (lv_at hl 3 rfl) ?_
    refine lv_iconst (v := nI 0) hx hb dX5_why_11 (by decide) ?_
    refine lv_bipush (v := nI 9) hx hb dX5_why_12 (by decide) ?_
    refine xSro C hN (As := [.int y, .int (nI 0), .int (nI 9)]) (rest := []) (c_X5_in xl D kA y (nI 0) (nI 9)) (va_cwS 3 hts gX5_why_X5_in rfl rfl rfl (by decide +kernel) ⟨Nat.le_of_ble_eq_true rfl, Nat.le_of_ble_eq_true rfl⟩) (hP.sub (ws' := []) [] rfl) rfl hl.1 rfl (Nat.le_of_ble_eq_true rfl) dX5_why_14 ⟨Nat.le_of_ble_eq_true rfl, Nat.le_of_ble_eq_true rfl⟩ ?_
    refine xIfEqB C (tgt := 30) dX5_why_17 (by decide) (fun h_17 => ?_) (fun h_17 => ?_)
    · skip
      refine lv_bipush (v := (-2)) hx hb dX5_why_30 (by decide) ?_
      exact xRetI hx hb hret (v := (-2)) (retS (S2 := (V, ln, P, kt, HH, HB, LL)) (by simp [opWhy, h_5, g1, g2, t_c1, t_d1, h_17]) ⟨hs, sl, sv, pd, sg, td, rfl, hH, hpd, hsv⟩) hP hD hS dX5_why_32 hlocks
    · skip
      obtain ⟨r1, a_r1, b_r1, e_r1, t_r1⟩ := inR_ex h_17 (by decide) (by decide)
      rw [e_r1] at hl
      skip
      refine lv_aload_n hx hb dX5_why_20 rfl (lv_at hl 0 rfl) ?_
      refine lv_iload_n hx hb dX5_why_21 rfl (lv_at hl 1 rfl) ?_
      refine lv_iload_n hx hb dX5_why_22 rfl (lv_at hl 2 rfl) ?_
      refine lv_iload_n hx hb dX5_why_23 rfl (lv_at hl 3 rfl) ?_
      refine xWWi hS (va_runV (As := [.int (nI c1), .int (nI d1), .int (nI r1)]) (rest := []) C (c_X5_reason xl D kA a V hs sl sv pd sg kt ln td hV hW c1 d1 r1 (by omega) (by omega) (by omega) A) (cwV 3 hts gX5_why_X5_reason rfl rfl rfl (by decide +kernel) ⟨Nat.le_of_ble_eq_true rfl, Nat.le_of_ble_eq_true rfl⟩) (xPreVw (q0 := 0) hN hP hD (xAll hS hA) rfl rfl rfl) rfl rfl hl.1 rfl (lv_room (Nat.le_of_ble_eq_true rfl)) dX5_why_24 ⟨Nat.le_of_ble_eq_true rfl, Nat.le_of_ble_eq_true rfl⟩) (fun r_24 u_24 H locs hq_24 hP hD hS => ?_)
      obtain ⟨rfl, g_24, rfl⟩ := hq_24
      have hP : va_P D vwCl [((a 0), .inr (5, [.ref (a 1), .ref (a 2), .int (nI kt), .ref (a 3), .ref (a 4), .ref (a 5), .int (nI ln), .ref (a 6), .int (nI td)])), ((a 1), .inl (kA 0, 169, .inl (vI V))), ((a 2), .inl (kA 0, 1014, .inl (hs))), ((a 3), .inl (kA 0, 338, .inl (sl))), ((a 4), .inl (kA 2, 2, .inl (sv))), ((a 5), .inl (kA 0, 60, .inl (pd))), ((a 6), .inl (kA 0, 5, .inl (g_24)))] H := hP
      have hD : va_D A [((a 0), .inr (5, [.ref (a 1), .ref (a 2), .int (nI kt), .ref (a 3), .ref (a 4), .ref (a 5), .int (nI ln), .ref (a 6), .int (nI td)])), ((a 1), .inl (kA 0, 169, .inl (vI V))), ((a 2), .inl (kA 0, 1014, .inl (hs))), ((a 3), .inl (kA 0, 338, .inl (sl))), ((a 4), .inl (kA 2, 2, .inl (sv))), ((a 5), .inl (kA 0, 60, .inl (pd))), ((a 6), .inl (kA 0, 5, .inl (g_24)))] := hD
      refine lv_goto (tgt := 32) hx hb dX5_why_27 (by decide) ?_
      exact xRetI hx hb hret (v := (rsnT (V 0) (TV V) c1 d1 r1)) (retS (S2 := (V, ln, P, kt, HH, HB, LL)) (by simp [opWhy, h_5, g1, g2, t_c1, t_d1, h_17, t_r1]) ⟨hs, sl, sv, pd, g_24, td, rfl, hH, hpd, hsv⟩) hP hD hS dX5_why_32 hlocks
  · skip
    refine lv_iconst (v := (-1)) hx hb dX5_why_8 (by decide) ?_
    exact xRetI hx hb hret (v := (-1)) (retS (S2 := (V, ln, P, kt, HH, HB, LL)) (by simp [opWhy, h_5]) ⟨hs, sl, sv, pd, sg, td, rfl, hH, hpd, hsv⟩) hP hD hS dX5_why_9 hlocks

set_option maxHeartbeats 8000000 in
set_option maxRecDepth 100000 in
theorem c_X5_count (xl : Launch) (D : va_G) (kA : Nat → ClassId) (a : Nat → Nat) (V : Nat → Nat) (hs sl sv pd sg : Nat → Int32) (kt ln td : Nat) (P : Nat → Nat) (HH : Nat → Nat → Nat) (HB : Nat → Bool) (LL : Nat → Nat → Nat) (hI : InvS (V, ln, P, kt, HH, HB, LL)) (hH : relH hs kt HH) (hpd : relP pd ln P) (hsv : relS sv sl HB LL) (w : Int32) (A : Nat → Prop) : Met xl yX5_count wsX5_count { frames := 8, cells := 0, slots := 0, locals := 189 } (va_Pc [.ref (a 0), .int w] (xPw D kA A [((a 0), .inr (5, [.ref (a 1), .ref (a 2), .int (nI kt), .ref (a 3), .ref (a 4), .ref (a 5), .int (nI ln), .ref (a 6), .int (nI td)])), ((a 1), .inl (kA 0, 169, .inl (vI V))), ((a 2), .inl (kA 0, 1014, .inl (hs))), ((a 3), .inl (kA 0, 338, .inl (sl))), ((a 4), .inl (kA 2, 2, .inl (sv))), ((a 5), .inl (kA 0, 60, .inl (pd))), ((a 6), .inl (kA 0, 5, .inl (sg)))])) (xQi D A (fun r u => r = (opCount (V, ln, P, kt, HH, HB, LL) w).1 ∧ ModR kA a (opCount (V, ln, P, kt, HH, HB, LL) w).2 u)) 0 0 A := by
  refine Met.ofW (cc := cX5_count) (maxL := 2) (ret := (some .int)) (by decide) rfl ?_
  intro xp xe xs xm args xbe xme xc s₁ B hml hv
  obtain ⟨rfl, hP, hN, hD, hA⟩ := hv
  have hret := B.returns
  have C : CallFix xp xm xc cX5_count 2 xs ([.ref (a 0), .int w] : List Value).toArray wsX5_count RX5 := ⟨B.exec, B.bytes, hml, findClass_of_methodNamed B.named, atoms_spec (ws := wsX5_count) B.pre⟩
  have hlocks := B.notSynchronized
  obtain ⟨hx, hb, _, hown, hts⟩ := id C
  have hS : va_S A xs.heap xs.heap [] := va_S.rf
  have hl := lv_entry ([.ref (a 0), .int w]) (n := 2) (Nat.le_of_ble_eq_true rfl)
  rw [lg_entry_eq]
  generalize (lg_sl ([.ref (a 0), .int w]) ++ List.replicate (2 - (lg_sl ([.ref (a 0), .int w])).length) Slot.unset).toArray = ls at hl ⊢
  have hl : lv_has ls 2 [(0, .ref (a 0)), (1, .int w)] := hl
  obtain ⟨⟨hV, hW, hM, hG⟩, hm, hwP, hk, hIH, hIL⟩ := hI
  refine lv_iload_n hx hb dX5_count_0 rfl (lv_at hl 1 rfl) ?_
  rcases xTab (x := w) 0 17 (by decide) with h_1 | ⟨j_1, hj_1, e_1⟩
  · refine lv_tableOut (tgt := 139) hx hb dX5_count_1 (by omega) (by decide) ?_
    have i_w : inR w (nI 0) (nI 16) = false := inR_o h_1
    skip
    refine lv_bipush (v := (-2)) hx hb dX5_count_139 (by decide) ?_
    exact xRetI hx hb hret (v := (-2)) (retS (S2 := (V, ln, P, kt, HH, HB, LL)) (by simp [opCount, i_w]) ⟨hs, sl, sv, pd, sg, td, rfl, hH, hpd, hsv⟩) hP hD hS dX5_count_141 hlocks
  · rcases (show j_1 = 0 ∨ j_1 = 1 ∨ j_1 = 2 ∨ j_1 = 3 ∨ j_1 = 4 ∨ j_1 = 5 ∨ j_1 = 6 ∨ j_1 = 7 ∨ j_1 = 8 ∨ j_1 = 9 ∨ j_1 = 10 ∨ j_1 = 11 ∨ j_1 = 12 ∨ j_1 = 13 ∨ j_1 = 14 ∨ j_1 = 15 ∨ j_1 = 16 by omega) with rfl | rfl | rfl | rfl | rfl | rfl | rfl | rfl | rfl | rfl | rfl | rfl | rfl | rfl | rfl | rfl | rfl
    · refine xTabIn C (j := 0) (tgt := 84) e_1 dX5_count_1 (by decide) (by decide) rfl (by decide) ?_
      have t_w : toN w = 0 := by rw [e_1]; rfl
      have i_w : inR w (nI 0) (nI 16) = true := by rw [e_1]; decide
      rw [e_1] at hl
      skip
      refine lv_aload_n hx hb dX5_count_84 rfl (lv_at hl 0 rfl) ?_
      refine xGet C hN hP 0 (j := 0) rfl rfl iX5_count_X5 (by decide) kX5_count_7 rfl rfl dX5_count_85 ?_
      refine lv_iconst (v := nI 0) hx hb dX5_count_88 (by decide) ?_
      refine xIald C hN hP 1 (j := 0) (v := nI (V 0)) rfl (by omega) (by decide) (rfl) dX5_count_89 ?_
      exact xRetI hx hb hret (v := nI (V 0)) (retS (S2 := (V, ln, P, kt, HH, HB, LL)) (by simp [opCount, cnV, t_w, i_w]) ⟨hs, sl, sv, pd, sg, td, rfl, hH, hpd, hsv⟩) hP hD hS dX5_count_90 hlocks
    · refine xTabIn C (j := 1) (tgt := 91) e_1 dX5_count_1 (by decide) (by decide) rfl (by decide) ?_
      have t_w : toN w = 1 := by rw [e_1]; rfl
      have i_w : inR w (nI 0) (nI 16) = true := by rw [e_1]; decide
      rw [e_1] at hl
      skip
      refine lv_aload_n hx hb dX5_count_91 rfl (lv_at hl 0 rfl) ?_
      refine lv_iload_n hx hb dX5_count_92 rfl (lv_at hl 1 rfl) ?_
      refine xWWi hS (va_runV (As := [.int (nI 1)]) (rest := []) C (c_X5_sumOf xl D kA a V hs sl sv pd sg kt ln td hV hW 1 (by decide) (by decide) A) (cwV 1 hts gX5_count_X5_sumOf rfl rfl rfl (by decide +kernel) ⟨Nat.le_of_ble_eq_true rfl, Nat.le_of_ble_eq_true rfl⟩) (xPreVw (q0 := 0) hN hP hD (xAll hS hA) rfl rfl rfl) rfl rfl hl.1 rfl (lv_room (Nat.le_of_ble_eq_true rfl)) dX5_count_93 ⟨Nat.le_of_ble_eq_true rfl, Nat.le_of_ble_eq_true rfl⟩) (fun r_93 u_93 H locs hq_93 hP hD hS => ?_)
      obtain ⟨rfl, g_93, rfl⟩ := hq_93
      have hP : va_P D vwCl [((a 0), .inr (5, [.ref (a 1), .ref (a 2), .int (nI kt), .ref (a 3), .ref (a 4), .ref (a 5), .int (nI ln), .ref (a 6), .int (nI td)])), ((a 1), .inl (kA 0, 169, .inl (vI V))), ((a 2), .inl (kA 0, 1014, .inl (hs))), ((a 3), .inl (kA 0, 338, .inl (sl))), ((a 4), .inl (kA 2, 2, .inl (sv))), ((a 5), .inl (kA 0, 60, .inl (pd))), ((a 6), .inl (kA 0, 5, .inl (g_93)))] H := hP
      have hD : va_D A [((a 0), .inr (5, [.ref (a 1), .ref (a 2), .int (nI kt), .ref (a 3), .ref (a 4), .ref (a 5), .int (nI ln), .ref (a 6), .int (nI td)])), ((a 1), .inl (kA 0, 169, .inl (vI V))), ((a 2), .inl (kA 0, 1014, .inl (hs))), ((a 3), .inl (kA 0, 338, .inl (sl))), ((a 4), .inl (kA 2, 2, .inl (sv))), ((a 5), .inl (kA 0, 60, .inl (pd))), ((a 6), .inl (kA 0, 5, .inl (g_93)))] := hD
      refine xTop (y := nI (cnV V ln kt 1)) (congrArg nI cn_sm1) ?_
      exact xRetI hx hb hret (v := nI (cnV V ln kt 1)) (retS (S2 := (V, ln, P, kt, HH, HB, LL)) (by simp [opCount, t_w, i_w]) ⟨hs, sl, sv, pd, g_93, td, rfl, hH, hpd, hsv⟩) hP hD hS dX5_count_96 hlocks
    · refine xTabIn C (j := 2) (tgt := 91) e_1 dX5_count_1 (by decide) (by decide) rfl (by decide) ?_
      have t_w : toN w = 2 := by rw [e_1]; rfl
      have i_w : inR w (nI 0) (nI 16) = true := by rw [e_1]; decide
      rw [e_1] at hl
      skip
      refine lv_aload_n hx hb dX5_count_91 rfl (lv_at hl 0 rfl) ?_
      refine lv_iload_n hx hb dX5_count_92 rfl (lv_at hl 1 rfl) ?_
      refine xWWi hS (va_runV (As := [.int (nI 2)]) (rest := []) C (c_X5_sumOf xl D kA a V hs sl sv pd sg kt ln td hV hW 2 (by decide) (by decide) A) (cwV 1 hts gX5_count_X5_sumOf rfl rfl rfl (by decide +kernel) ⟨Nat.le_of_ble_eq_true rfl, Nat.le_of_ble_eq_true rfl⟩) (xPreVw (q0 := 0) hN hP hD (xAll hS hA) rfl rfl rfl) rfl rfl hl.1 rfl (lv_room (Nat.le_of_ble_eq_true rfl)) dX5_count_93 ⟨Nat.le_of_ble_eq_true rfl, Nat.le_of_ble_eq_true rfl⟩) (fun r_93 u_93 H locs hq_93 hP hD hS => ?_)
      obtain ⟨rfl, g_93, rfl⟩ := hq_93
      have hP : va_P D vwCl [((a 0), .inr (5, [.ref (a 1), .ref (a 2), .int (nI kt), .ref (a 3), .ref (a 4), .ref (a 5), .int (nI ln), .ref (a 6), .int (nI td)])), ((a 1), .inl (kA 0, 169, .inl (vI V))), ((a 2), .inl (kA 0, 1014, .inl (hs))), ((a 3), .inl (kA 0, 338, .inl (sl))), ((a 4), .inl (kA 2, 2, .inl (sv))), ((a 5), .inl (kA 0, 60, .inl (pd))), ((a 6), .inl (kA 0, 5, .inl (g_93)))] H := hP
      have hD : va_D A [((a 0), .inr (5, [.ref (a 1), .ref (a 2), .int (nI kt), .ref (a 3), .ref (a 4), .ref (a 5), .int (nI ln), .ref (a 6), .int (nI td)])), ((a 1), .inl (kA 0, 169, .inl (vI V))), ((a 2), .inl (kA 0, 1014, .inl (hs))), ((a 3), .inl (kA 0, 338, .inl (sl))), ((a 4), .inl (kA 2, 2, .inl (sv))), ((a 5), .inl (kA 0, 60, .inl (pd))), ((a 6), .inl (kA 0, 5, .inl (g_93)))] := hD
      refine xTop (y := nI (cnV V ln kt 2)) (congrArg nI cn_sm2) ?_
      exact xRetI hx hb hret (v := nI (cnV V ln kt 2)) (retS (S2 := (V, ln, P, kt, HH, HB, LL)) (by simp [opCount, t_w, i_w]) ⟨hs, sl, sv, pd, g_93, td, rfl, hH, hpd, hsv⟩) hP hD hS dX5_count_96 hlocks
    · refine xTabIn C (j := 3) (tgt := 91) e_1 dX5_count_1 (by decide) (by decide) rfl (by decide) ?_
      have t_w : toN w = 3 := by rw [e_1]; rfl
      have i_w : inR w (nI 0) (nI 16) = true := by rw [e_1]; decide
      rw [e_1] at hl
      skip
      refine lv_aload_n hx hb dX5_count_91 rfl (lv_at hl 0 rfl) ?_
      refine lv_iload_n hx hb dX5_count_92 rfl (lv_at hl 1 rfl) ?_
      refine xWWi hS (va_runV (As := [.int (nI 3)]) (rest := []) C (c_X5_sumOf xl D kA a V hs sl sv pd sg kt ln td hV hW 3 (by decide) (by decide) A) (cwV 1 hts gX5_count_X5_sumOf rfl rfl rfl (by decide +kernel) ⟨Nat.le_of_ble_eq_true rfl, Nat.le_of_ble_eq_true rfl⟩) (xPreVw (q0 := 0) hN hP hD (xAll hS hA) rfl rfl rfl) rfl rfl hl.1 rfl (lv_room (Nat.le_of_ble_eq_true rfl)) dX5_count_93 ⟨Nat.le_of_ble_eq_true rfl, Nat.le_of_ble_eq_true rfl⟩) (fun r_93 u_93 H locs hq_93 hP hD hS => ?_)
      obtain ⟨rfl, g_93, rfl⟩ := hq_93
      have hP : va_P D vwCl [((a 0), .inr (5, [.ref (a 1), .ref (a 2), .int (nI kt), .ref (a 3), .ref (a 4), .ref (a 5), .int (nI ln), .ref (a 6), .int (nI td)])), ((a 1), .inl (kA 0, 169, .inl (vI V))), ((a 2), .inl (kA 0, 1014, .inl (hs))), ((a 3), .inl (kA 0, 338, .inl (sl))), ((a 4), .inl (kA 2, 2, .inl (sv))), ((a 5), .inl (kA 0, 60, .inl (pd))), ((a 6), .inl (kA 0, 5, .inl (g_93)))] H := hP
      have hD : va_D A [((a 0), .inr (5, [.ref (a 1), .ref (a 2), .int (nI kt), .ref (a 3), .ref (a 4), .ref (a 5), .int (nI ln), .ref (a 6), .int (nI td)])), ((a 1), .inl (kA 0, 169, .inl (vI V))), ((a 2), .inl (kA 0, 1014, .inl (hs))), ((a 3), .inl (kA 0, 338, .inl (sl))), ((a 4), .inl (kA 2, 2, .inl (sv))), ((a 5), .inl (kA 0, 60, .inl (pd))), ((a 6), .inl (kA 0, 5, .inl (g_93)))] := hD
      refine xTop (y := nI (cnV V ln kt 3)) (congrArg nI cn_sm3) ?_
      exact xRetI hx hb hret (v := nI (cnV V ln kt 3)) (retS (S2 := (V, ln, P, kt, HH, HB, LL)) (by simp [opCount, t_w, i_w]) ⟨hs, sl, sv, pd, g_93, td, rfl, hH, hpd, hsv⟩) hP hD hS dX5_count_96 hlocks
    · refine xTabIn C (j := 4) (tgt := 91) e_1 dX5_count_1 (by decide) (by decide) rfl (by decide) ?_
      have t_w : toN w = 4 := by rw [e_1]; rfl
      have i_w : inR w (nI 0) (nI 16) = true := by rw [e_1]; decide
      rw [e_1] at hl
      skip
      refine lv_aload_n hx hb dX5_count_91 rfl (lv_at hl 0 rfl) ?_
      refine lv_iload_n hx hb dX5_count_92 rfl (lv_at hl 1 rfl) ?_
      refine xWWi hS (va_runV (As := [.int (nI 4)]) (rest := []) C (c_X5_sumOf xl D kA a V hs sl sv pd sg kt ln td hV hW 4 (by decide) (by decide) A) (cwV 1 hts gX5_count_X5_sumOf rfl rfl rfl (by decide +kernel) ⟨Nat.le_of_ble_eq_true rfl, Nat.le_of_ble_eq_true rfl⟩) (xPreVw (q0 := 0) hN hP hD (xAll hS hA) rfl rfl rfl) rfl rfl hl.1 rfl (lv_room (Nat.le_of_ble_eq_true rfl)) dX5_count_93 ⟨Nat.le_of_ble_eq_true rfl, Nat.le_of_ble_eq_true rfl⟩) (fun r_93 u_93 H locs hq_93 hP hD hS => ?_)
      obtain ⟨rfl, g_93, rfl⟩ := hq_93
      have hP : va_P D vwCl [((a 0), .inr (5, [.ref (a 1), .ref (a 2), .int (nI kt), .ref (a 3), .ref (a 4), .ref (a 5), .int (nI ln), .ref (a 6), .int (nI td)])), ((a 1), .inl (kA 0, 169, .inl (vI V))), ((a 2), .inl (kA 0, 1014, .inl (hs))), ((a 3), .inl (kA 0, 338, .inl (sl))), ((a 4), .inl (kA 2, 2, .inl (sv))), ((a 5), .inl (kA 0, 60, .inl (pd))), ((a 6), .inl (kA 0, 5, .inl (g_93)))] H := hP
      have hD : va_D A [((a 0), .inr (5, [.ref (a 1), .ref (a 2), .int (nI kt), .ref (a 3), .ref (a 4), .ref (a 5), .int (nI ln), .ref (a 6), .int (nI td)])), ((a 1), .inl (kA 0, 169, .inl (vI V))), ((a 2), .inl (kA 0, 1014, .inl (hs))), ((a 3), .inl (kA 0, 338, .inl (sl))), ((a 4), .inl (kA 2, 2, .inl (sv))), ((a 5), .inl (kA 0, 60, .inl (pd))), ((a 6), .inl (kA 0, 5, .inl (g_93)))] := hD
      refine xTop (y := nI (cnV V ln kt 4)) (congrArg nI cn_sm4) ?_
      exact xRetI hx hb hret (v := nI (cnV V ln kt 4)) (retS (S2 := (V, ln, P, kt, HH, HB, LL)) (by simp [opCount, t_w, i_w]) ⟨hs, sl, sv, pd, g_93, td, rfl, hH, hpd, hsv⟩) hP hD hS dX5_count_96 hlocks
    · refine xTabIn C (j := 5) (tgt := 97) e_1 dX5_count_1 (by decide) (by decide) rfl (by decide) ?_
      have t_w : toN w = 5 := by rw [e_1]; rfl
      have i_w : inR w (nI 0) (nI 16) = true := by rw [e_1]; decide
      rw [e_1] at hl
      skip
      refine lv_aload_n hx hb dX5_count_97 rfl (lv_at hl 0 rfl) ?_
      refine lv_iconst (v := nI 5) hx hb dX5_count_98 (by decide) ?_
      refine xWWi hS (va_runV (As := [.int (nI 5)]) (rest := []) C (c_X5_sumOf xl D kA a V hs sl sv pd sg kt ln td hV hW 5 (by decide) (by decide) A) (cwV 1 hts gX5_count_X5_sumOf rfl rfl rfl (by decide +kernel) ⟨Nat.le_of_ble_eq_true rfl, Nat.le_of_ble_eq_true rfl⟩) (xPreVw (q0 := 0) hN hP hD (xAll hS hA) rfl rfl rfl) rfl rfl hl.1 rfl (lv_room (Nat.le_of_ble_eq_true rfl)) dX5_count_99 ⟨Nat.le_of_ble_eq_true rfl, Nat.le_of_ble_eq_true rfl⟩) (fun r_99 u_99 H locs hq_99 hP hD hS => ?_)
      obtain ⟨rfl, g_99, rfl⟩ := hq_99
      have hP : va_P D vwCl [((a 0), .inr (5, [.ref (a 1), .ref (a 2), .int (nI kt), .ref (a 3), .ref (a 4), .ref (a 5), .int (nI ln), .ref (a 6), .int (nI td)])), ((a 1), .inl (kA 0, 169, .inl (vI V))), ((a 2), .inl (kA 0, 1014, .inl (hs))), ((a 3), .inl (kA 0, 338, .inl (sl))), ((a 4), .inl (kA 2, 2, .inl (sv))), ((a 5), .inl (kA 0, 60, .inl (pd))), ((a 6), .inl (kA 0, 5, .inl (g_99)))] H := hP
      have hD : va_D A [((a 0), .inr (5, [.ref (a 1), .ref (a 2), .int (nI kt), .ref (a 3), .ref (a 4), .ref (a 5), .int (nI ln), .ref (a 6), .int (nI td)])), ((a 1), .inl (kA 0, 169, .inl (vI V))), ((a 2), .inl (kA 0, 1014, .inl (hs))), ((a 3), .inl (kA 0, 338, .inl (sl))), ((a 4), .inl (kA 2, 2, .inl (sv))), ((a 5), .inl (kA 0, 60, .inl (pd))), ((a 6), .inl (kA 0, 5, .inl (g_99)))] := hD
      refine lv_iconst (v := nI 2) hx hb dX5_count_102 (by decide) ?_
      refine xIdiv C (sm5_lt hV) (by decide) (by decide) dX5_count_103 ?_
      refine xTop (y := nI (oprT (V 0) (TV V))) (congrArg nI sm_opr) ?_
      exact xRetI hx hb hret (v := nI (oprT (V 0) (TV V))) (retS (S2 := (V, ln, P, kt, HH, HB, LL)) (by simp [opCount, cnV, t_w, i_w]) ⟨hs, sl, sv, pd, g_99, td, rfl, hH, hpd, hsv⟩) hP hD hS dX5_count_104 hlocks
    · refine xTabIn C (j := 6) (tgt := 105) e_1 dX5_count_1 (by decide) (by decide) rfl (by decide) ?_
      have t_w : toN w = 6 := by rw [e_1]; rfl
      have i_w : inR w (nI 0) (nI 16) = true := by rw [e_1]; decide
      rw [e_1] at hl
      skip
      refine lv_aload_n hx hb dX5_count_105 rfl (lv_at hl 0 rfl) ?_
      refine xWWi hS (va_runV (As := []) (rest := []) C (c_X5_triplesNow xl D kA a V hs sl sv pd sg kt ln td hV hW A) (cwV 0 hts gX5_count_X5_triplesNow rfl rfl rfl (by decide +kernel) ⟨Nat.le_of_ble_eq_true rfl, Nat.le_of_ble_eq_true rfl⟩) (xPreVw (q0 := 0) hN hP hD (xAll hS hA) rfl rfl rfl) rfl rfl hl.1 rfl (lv_room (Nat.le_of_ble_eq_true rfl)) dX5_count_106 ⟨Nat.le_of_ble_eq_true rfl, Nat.le_of_ble_eq_true rfl⟩) (fun r_106 u_106 H locs hq_106 hP hD hS => ?_)
      obtain ⟨rfl, g_106, rfl⟩ := hq_106
      have hP : va_P D vwCl [((a 0), .inr (5, [.ref (a 1), .ref (a 2), .int (nI kt), .ref (a 3), .ref (a 4), .ref (a 5), .int (nI ln), .ref (a 6), .int (nI td)])), ((a 1), .inl (kA 0, 169, .inl (vI V))), ((a 2), .inl (kA 0, 1014, .inl (hs))), ((a 3), .inl (kA 0, 338, .inl (sl))), ((a 4), .inl (kA 2, 2, .inl (sv))), ((a 5), .inl (kA 0, 60, .inl (pd))), ((a 6), .inl (kA 0, 5, .inl (g_106)))] H := hP
      have hD : va_D A [((a 0), .inr (5, [.ref (a 1), .ref (a 2), .int (nI kt), .ref (a 3), .ref (a 4), .ref (a 5), .int (nI ln), .ref (a 6), .int (nI td)])), ((a 1), .inl (kA 0, 169, .inl (vI V))), ((a 2), .inl (kA 0, 1014, .inl (hs))), ((a 3), .inl (kA 0, 338, .inl (sl))), ((a 4), .inl (kA 2, 2, .inl (sv))), ((a 5), .inl (kA 0, 60, .inl (pd))), ((a 6), .inl (kA 0, 5, .inl (g_106)))] := hD
      refine xTop (y := nI (trpT (V 0) (TV V))) (congrArg nI (trpM_now hW (by omega))) ?_
      exact xRetI hx hb hret (v := nI (trpT (V 0) (TV V))) (retS (S2 := (V, ln, P, kt, HH, HB, LL)) (by simp [opCount, cnV, t_w, i_w]) ⟨hs, sl, sv, pd, g_106, td, rfl, hH, hpd, hsv⟩) hP hD hS dX5_count_109 hlocks
    · refine xTabIn C (j := 7) (tgt := 110) e_1 dX5_count_1 (by decide) (by decide) rfl (by decide) ?_
      have t_w : toN w = 7 := by rw [e_1]; rfl
      have i_w : inR w (nI 0) (nI 16) = true := by rw [e_1]; decide
      rw [e_1] at hl
      skip
      refine lv_aload_n hx hb dX5_count_110 rfl (lv_at hl 0 rfl) ?_
      refine xGet C hN hP 0 (j := 0) rfl rfl iX5_count_X5 (by decide) kX5_count_7 rfl rfl dX5_count_111 ?_
      refine lv_iconst (v := nI 1) hx hb dX5_count_114 (by decide) ?_
      refine xIald C hN hP 1 (j := 1) (v := nI (V 1)) rfl (by omega) (by decide) (rfl) dX5_count_115 ?_
      exact xRetI hx hb hret (v := nI (V 1)) (retS (S2 := (V, ln, P, kt, HH, HB, LL)) (by simp [opCount, cnV, t_w, i_w]) ⟨hs, sl, sv, pd, sg, td, rfl, hH, hpd, hsv⟩) hP hD hS dX5_count_116 hlocks
    · refine xTabIn C (j := 8) (tgt := 117) e_1 dX5_count_1 (by decide) (by decide) rfl (by decide) ?_
      have t_w : toN w = 8 := by rw [e_1]; rfl
      have i_w : inR w (nI 0) (nI 16) = true := by rw [e_1]; decide
      rw [e_1] at hl
      skip
      refine lv_aload_n hx hb dX5_count_117 rfl (lv_at hl 0 rfl) ?_
      refine xGet C hN hP 0 (j := 0) rfl rfl iX5_count_X5 (by decide) kX5_count_7 rfl rfl dX5_count_118 ?_
      refine lv_iconst (v := nI 2) hx hb dX5_count_121 (by decide) ?_
      refine lv_iload_n hx hb dX5_count_122 rfl (lv_at hl 1 rfl) ?_
      refine xIadd C dX5_count_123 ?_
      refine lv_bipush (v := nI 8) hx hb dX5_count_124 (by decide) ?_
      refine xIsub C (by omega) dX5_count_126 ?_
      refine xIald C hN hP 1 (j := (2 + 8) - 8) (v := nI (V ((2 + 8) - 8))) rfl (by omega) (by decide) (rfl) dX5_count_127 ?_
      exact xRetI hx hb hret (v := nI (V ((2 + 8) - 8))) (retS (S2 := (V, ln, P, kt, HH, HB, LL)) (by simp [opCount, cnV, t_w, i_w]) ⟨hs, sl, sv, pd, sg, td, rfl, hH, hpd, hsv⟩) hP hD hS dX5_count_128 hlocks
    · refine xTabIn C (j := 9) (tgt := 117) e_1 dX5_count_1 (by decide) (by decide) rfl (by decide) ?_
      have t_w : toN w = 9 := by rw [e_1]; rfl
      have i_w : inR w (nI 0) (nI 16) = true := by rw [e_1]; decide
      rw [e_1] at hl
      skip
      refine lv_aload_n hx hb dX5_count_117 rfl (lv_at hl 0 rfl) ?_
      refine xGet C hN hP 0 (j := 0) rfl rfl iX5_count_X5 (by decide) kX5_count_7 rfl rfl dX5_count_118 ?_
      refine lv_iconst (v := nI 2) hx hb dX5_count_121 (by decide) ?_
      refine lv_iload_n hx hb dX5_count_122 rfl (lv_at hl 1 rfl) ?_
      refine xIadd C dX5_count_123 ?_
      refine lv_bipush (v := nI 8) hx hb dX5_count_124 (by decide) ?_
      refine xIsub C (by omega) dX5_count_126 ?_
      refine xIald C hN hP 1 (j := (2 + 9) - 8) (v := nI (V ((2 + 9) - 8))) rfl (by omega) (by decide) (rfl) dX5_count_127 ?_
      exact xRetI hx hb hret (v := nI (V ((2 + 9) - 8))) (retS (S2 := (V, ln, P, kt, HH, HB, LL)) (by simp [opCount, cnV, t_w, i_w]) ⟨hs, sl, sv, pd, sg, td, rfl, hH, hpd, hsv⟩) hP hD hS dX5_count_128 hlocks
    · refine xTabIn C (j := 10) (tgt := 117) e_1 dX5_count_1 (by decide) (by decide) rfl (by decide) ?_
      have t_w : toN w = 10 := by rw [e_1]; rfl
      have i_w : inR w (nI 0) (nI 16) = true := by rw [e_1]; decide
      rw [e_1] at hl
      skip
      refine lv_aload_n hx hb dX5_count_117 rfl (lv_at hl 0 rfl) ?_
      refine xGet C hN hP 0 (j := 0) rfl rfl iX5_count_X5 (by decide) kX5_count_7 rfl rfl dX5_count_118 ?_
      refine lv_iconst (v := nI 2) hx hb dX5_count_121 (by decide) ?_
      refine lv_iload_n hx hb dX5_count_122 rfl (lv_at hl 1 rfl) ?_
      refine xIadd C dX5_count_123 ?_
      refine lv_bipush (v := nI 8) hx hb dX5_count_124 (by decide) ?_
      refine xIsub C (by omega) dX5_count_126 ?_
      refine xIald C hN hP 1 (j := (2 + 10) - 8) (v := nI (V ((2 + 10) - 8))) rfl (by omega) (by decide) (rfl) dX5_count_127 ?_
      exact xRetI hx hb hret (v := nI (V ((2 + 10) - 8))) (retS (S2 := (V, ln, P, kt, HH, HB, LL)) (by simp [opCount, cnV, t_w, i_w]) ⟨hs, sl, sv, pd, sg, td, rfl, hH, hpd, hsv⟩) hP hD hS dX5_count_128 hlocks
    · refine xTabIn C (j := 11) (tgt := 117) e_1 dX5_count_1 (by decide) (by decide) rfl (by decide) ?_
      have t_w : toN w = 11 := by rw [e_1]; rfl
      have i_w : inR w (nI 0) (nI 16) = true := by rw [e_1]; decide
      rw [e_1] at hl
      skip
      refine lv_aload_n hx hb dX5_count_117 rfl (lv_at hl 0 rfl) ?_
      refine xGet C hN hP 0 (j := 0) rfl rfl iX5_count_X5 (by decide) kX5_count_7 rfl rfl dX5_count_118 ?_
      refine lv_iconst (v := nI 2) hx hb dX5_count_121 (by decide) ?_
      refine lv_iload_n hx hb dX5_count_122 rfl (lv_at hl 1 rfl) ?_
      refine xIadd C dX5_count_123 ?_
      refine lv_bipush (v := nI 8) hx hb dX5_count_124 (by decide) ?_
      refine xIsub C (by omega) dX5_count_126 ?_
      refine xIald C hN hP 1 (j := (2 + 11) - 8) (v := nI (V ((2 + 11) - 8))) rfl (by omega) (by decide) (rfl) dX5_count_127 ?_
      exact xRetI hx hb hret (v := nI (V ((2 + 11) - 8))) (retS (S2 := (V, ln, P, kt, HH, HB, LL)) (by simp [opCount, cnV, t_w, i_w]) ⟨hs, sl, sv, pd, sg, td, rfl, hH, hpd, hsv⟩) hP hD hS dX5_count_128 hlocks
    · refine xTabIn C (j := 12) (tgt := 117) e_1 dX5_count_1 (by decide) (by decide) rfl (by decide) ?_
      have t_w : toN w = 12 := by rw [e_1]; rfl
      have i_w : inR w (nI 0) (nI 16) = true := by rw [e_1]; decide
      rw [e_1] at hl
      skip
      refine lv_aload_n hx hb dX5_count_117 rfl (lv_at hl 0 rfl) ?_
      refine xGet C hN hP 0 (j := 0) rfl rfl iX5_count_X5 (by decide) kX5_count_7 rfl rfl dX5_count_118 ?_
      refine lv_iconst (v := nI 2) hx hb dX5_count_121 (by decide) ?_
      refine lv_iload_n hx hb dX5_count_122 rfl (lv_at hl 1 rfl) ?_
      refine xIadd C dX5_count_123 ?_
      refine lv_bipush (v := nI 8) hx hb dX5_count_124 (by decide) ?_
      refine xIsub C (by omega) dX5_count_126 ?_
      refine xIald C hN hP 1 (j := (2 + 12) - 8) (v := nI (V ((2 + 12) - 8))) rfl (by omega) (by decide) (rfl) dX5_count_127 ?_
      exact xRetI hx hb hret (v := nI (V ((2 + 12) - 8))) (retS (S2 := (V, ln, P, kt, HH, HB, LL)) (by simp [opCount, cnV, t_w, i_w]) ⟨hs, sl, sv, pd, sg, td, rfl, hH, hpd, hsv⟩) hP hD hS dX5_count_128 hlocks
    · refine xTabIn C (j := 13) (tgt := 117) e_1 dX5_count_1 (by decide) (by decide) rfl (by decide) ?_
      have t_w : toN w = 13 := by rw [e_1]; rfl
      have i_w : inR w (nI 0) (nI 16) = true := by rw [e_1]; decide
      rw [e_1] at hl
      skip
      refine lv_aload_n hx hb dX5_count_117 rfl (lv_at hl 0 rfl) ?_
      refine xGet C hN hP 0 (j := 0) rfl rfl iX5_count_X5 (by decide) kX5_count_7 rfl rfl dX5_count_118 ?_
      refine lv_iconst (v := nI 2) hx hb dX5_count_121 (by decide) ?_
      refine lv_iload_n hx hb dX5_count_122 rfl (lv_at hl 1 rfl) ?_
      refine xIadd C dX5_count_123 ?_
      refine lv_bipush (v := nI 8) hx hb dX5_count_124 (by decide) ?_
      refine xIsub C (by omega) dX5_count_126 ?_
      refine xIald C hN hP 1 (j := (2 + 13) - 8) (v := nI (V ((2 + 13) - 8))) rfl (by omega) (by decide) (rfl) dX5_count_127 ?_
      exact xRetI hx hb hret (v := nI (V ((2 + 13) - 8))) (retS (S2 := (V, ln, P, kt, HH, HB, LL)) (by simp [opCount, cnV, t_w, i_w]) ⟨hs, sl, sv, pd, sg, td, rfl, hH, hpd, hsv⟩) hP hD hS dX5_count_128 hlocks
    · refine xTabIn C (j := 14) (tgt := 117) e_1 dX5_count_1 (by decide) (by decide) rfl (by decide) ?_
      have t_w : toN w = 14 := by rw [e_1]; rfl
      have i_w : inR w (nI 0) (nI 16) = true := by rw [e_1]; decide
      rw [e_1] at hl
      skip
      refine lv_aload_n hx hb dX5_count_117 rfl (lv_at hl 0 rfl) ?_
      refine xGet C hN hP 0 (j := 0) rfl rfl iX5_count_X5 (by decide) kX5_count_7 rfl rfl dX5_count_118 ?_
      refine lv_iconst (v := nI 2) hx hb dX5_count_121 (by decide) ?_
      refine lv_iload_n hx hb dX5_count_122 rfl (lv_at hl 1 rfl) ?_
      refine xIadd C dX5_count_123 ?_
      refine lv_bipush (v := nI 8) hx hb dX5_count_124 (by decide) ?_
      refine xIsub C (by omega) dX5_count_126 ?_
      refine xIald C hN hP 1 (j := (2 + 14) - 8) (v := nI (V ((2 + 14) - 8))) rfl (by omega) (by decide) (rfl) dX5_count_127 ?_
      exact xRetI hx hb hret (v := nI (V ((2 + 14) - 8))) (retS (S2 := (V, ln, P, kt, HH, HB, LL)) (by simp [opCount, cnV, t_w, i_w]) ⟨hs, sl, sv, pd, sg, td, rfl, hH, hpd, hsv⟩) hP hD hS dX5_count_128 hlocks
    · refine xTabIn C (j := 15) (tgt := 129) e_1 dX5_count_1 (by decide) (by decide) rfl (by decide) ?_
      have t_w : toN w = 15 := by rw [e_1]; rfl
      have i_w : inR w (nI 0) (nI 16) = true := by rw [e_1]; decide
      rw [e_1] at hl
      skip
      refine lv_aload_n hx hb dX5_count_129 rfl (lv_at hl 0 rfl) ?_
      refine xGet C hN hP 0 (j := 6) rfl rfl iX5_count_X5 (by decide) kX5_count_118 rfl rfl dX5_count_130 ?_
      exact xRetI hx hb hret (v := nI ln) (retS (S2 := (V, ln, P, kt, HH, HB, LL)) (by simp [opCount, cnV, t_w, i_w]) ⟨hs, sl, sv, pd, sg, td, rfl, hH, hpd, hsv⟩) hP hD hS dX5_count_133 hlocks
    · refine xTabIn C (j := 16) (tgt := 134) e_1 dX5_count_1 (by decide) (by decide) rfl (by decide) ?_
      have t_w : toN w = 16 := by rw [e_1]; rfl
      have i_w : inR w (nI 0) (nI 16) = true := by rw [e_1]; decide
      rw [e_1] at hl
      skip
      refine lv_aload_n hx hb dX5_count_134 rfl (lv_at hl 0 rfl) ?_
      refine xGet C hN hP 0 (j := 2) rfl rfl iX5_count_X5 (by decide) kX5_count_37 rfl rfl dX5_count_135 ?_
      exact xRetI hx hb hret (v := nI kt) (retS (S2 := (V, ln, P, kt, HH, HB, LL)) (by simp [opCount, cnV, t_w, i_w]) ⟨hs, sl, sv, pd, sg, td, rfl, hH, hpd, hsv⟩) hP hD hS dX5_count_138 hlocks

set_option maxHeartbeats 8000000 in
set_option maxRecDepth 100000 in
theorem c_X5_leastRank (xl : Launch) (D : va_G) (kA : Nat → ClassId) (a : Nat → Nat) (V : Nat → Nat) (hs sl sv pd sg : Nat → Int32) (kt ln td : Nat) (P : Nat → Nat) (HH : Nat → Nat → Nat) (HB : Nat → Bool) (LL : Nat → Nat → Nat) (hI : InvS (V, ln, P, kt, HH, HB, LL)) (hH : relH hs kt HH) (hpd : relP pd ln P) (hsv : relS sv sl HB LL) (c d : Int32) (A : Nat → Prop) : Met xl yX5_leastRank wsX5_leastRank { frames := 6, cells := 0, slots := 0, locals := 143 } (va_Pc [.ref (a 0), .int c, .int d] (xPw D kA A [((a 0), .inr (5, [.ref (a 1), .ref (a 2), .int (nI kt), .ref (a 3), .ref (a 4), .ref (a 5), .int (nI ln), .ref (a 6), .int (nI td)])), ((a 1), .inl (kA 0, 169, .inl (vI V))), ((a 2), .inl (kA 0, 1014, .inl (hs))), ((a 3), .inl (kA 0, 338, .inl (sl))), ((a 4), .inl (kA 2, 2, .inl (sv))), ((a 5), .inl (kA 0, 60, .inl (pd))), ((a 6), .inl (kA 0, 5, .inl (sg)))])) (xQi D A (fun r u => r = (opLeast (V, ln, P, kt, HH, HB, LL) c d).1 ∧ ModR kA a (opLeast (V, ln, P, kt, HH, HB, LL) c d).2 u)) 0 0 A := by
  refine Met.ofW (cc := cX5_leastRank) (maxL := 4) (ret := (some .int)) (by decide) rfl ?_
  intro xp xe xs xm args xbe xme xc s₁ B hml hv
  obtain ⟨rfl, hP, hN, hD, hA⟩ := hv
  have hret := B.returns
  have C : CallFix xp xm xc cX5_leastRank 4 xs ([.ref (a 0), .int c, .int d] : List Value).toArray wsX5_leastRank RX5 := ⟨B.exec, B.bytes, hml, findClass_of_methodNamed B.named, atoms_spec (ws := wsX5_leastRank) B.pre⟩
  have hlocks := B.notSynchronized
  obtain ⟨hx, hb, _, hown, hts⟩ := id C
  have hS : va_S A xs.heap xs.heap [] := va_S.rf
  have hl := lv_entry ([.ref (a 0), .int c, .int d]) (n := 4) (Nat.le_of_ble_eq_true rfl)
  rw [lg_entry_eq]
  generalize (lg_sl ([.ref (a 0), .int c, .int d]) ++ List.replicate (4 - (lg_sl ([.ref (a 0), .int c, .int d])).length) Slot.unset).toArray = ls at hl ⊢
  have hl : lv_has ls 4 [(0, .ref (a 0)), (1, .int c), (2, .int d)] := hl
  obtain ⟨⟨hV, hW, hM, hG⟩, hm, hwP, hk, hIH, hIL⟩ := hI
  refine lv_iload_n hx hb dX5_leastRank_0 rfl (lv_at hl 1 rfl) ?_
  refine lv_iload_n hx hb dX5_leastRank_1 rfl (lv_at hl 2 rfl) ?_
  refine xSro C hN (As := [.int c, .int d]) (rest := []) (c_X5_isAsked xl D kA c d) (va_cwS 2 hts gX5_leastRank_X5_isAsked rfl rfl rfl (by decide +kernel) ⟨Nat.le_of_ble_eq_true rfl, Nat.le_of_ble_eq_true rfl⟩) (hP.sub (ws' := []) [] rfl) rfl hl.1 rfl (Nat.le_of_ble_eq_true rfl) dX5_leastRank_2 ⟨Nat.le_of_ble_eq_true rfl, Nat.le_of_ble_eq_true rfl⟩ ?_
  refine xIfNeB C (tgt := 10) dX5_leastRank_5 (by decide) (fun h_5 => ?_) (fun h_5 => ?_)
  · skip
    have g_5 := (Bool.and_eq_true _ _).mp h_5
    have g1 := g_5.1
    have g2 := g_5.2
    skip
    obtain ⟨c1, a_c1, b_c1, e_c1, t_c1⟩ := inR_ex g1 (by decide) (by decide)
    rw [e_c1] at hl
    skip
    obtain ⟨d1, a_d1, b_d1, e_d1, t_d1⟩ := inR_ex g2 (by decide) (by decide)
    rw [e_d1] at hl
    skip
    refine lv_aload_n hx hb dX5_leastRank_10 rfl (lv_at hl 0 rfl) ?_
    refine lv_iload_n hx hb dX5_leastRank_11 rfl (lv_at hl 1 rfl) ?_
    refine lv_iload_n hx hb dX5_leastRank_12 rfl (lv_at hl 2 rfl) ?_
    refine xWWi hS (va_runV (As := [.int (nI c1), .int (nI d1)]) (rest := []) C (c_X5_leastNow xl D kA a V hs sl sv pd sg kt ln td hV hW c1 d1 (by omega) (by omega) A) (cwV 2 hts gX5_leastRank_X5_leastNow rfl rfl rfl (by decide +kernel) ⟨Nat.le_of_ble_eq_true rfl, Nat.le_of_ble_eq_true rfl⟩) (xPreVw (q0 := 0) hN hP hD (xAll hS hA) rfl rfl rfl) rfl rfl hl.1 rfl (lv_room (Nat.le_of_ble_eq_true rfl)) dX5_leastRank_13 ⟨Nat.le_of_ble_eq_true rfl, Nat.le_of_ble_eq_true rfl⟩) (fun r_13 u_13 H locs hq_13 hP hD hS => ?_)
    obtain ⟨rfl, g_13, rfl, hg_13⟩ := hq_13
    have hP : va_P D vwCl [((a 0), .inr (5, [.ref (a 1), .ref (a 2), .int (nI kt), .ref (a 3), .ref (a 4), .ref (a 5), .int (nI ln), .ref (a 6), .int (nI td)])), ((a 1), .inl (kA 0, 169, .inl (vI V))), ((a 2), .inl (kA 0, 1014, .inl (hs))), ((a 3), .inl (kA 0, 338, .inl (sl))), ((a 4), .inl (kA 2, 2, .inl (sv))), ((a 5), .inl (kA 0, 60, .inl (pd))), ((a 6), .inl (kA 0, 5, .inl (g_13)))] H := hP
    have hD : va_D A [((a 0), .inr (5, [.ref (a 1), .ref (a 2), .int (nI kt), .ref (a 3), .ref (a 4), .ref (a 5), .int (nI ln), .ref (a 6), .int (nI td)])), ((a 1), .inl (kA 0, 169, .inl (vI V))), ((a 2), .inl (kA 0, 1014, .inl (hs))), ((a 3), .inl (kA 0, 338, .inl (sl))), ((a 4), .inl (kA 2, 2, .inl (sv))), ((a 5), .inl (kA 0, 60, .inl (pd))), ((a 6), .inl (kA 0, 5, .inl (g_13)))] := hD
    refine xTop (y := nI (lstT (V 0) (TV V) c1 d1)) (congrArg nI (lstM_now hW (by omega))) ?_
    refine lv_istore_n (lv' := [(3, .int (nI (lstT (V 0) (TV V) c1 d1))), (0, .ref (a 0)), (1, .int (nI c1)), (2, .int (nI d1))]) hx hb dX5_leastRank_16 rfl hl (by decide) rfl (fun ls hl => ?_)
    refine lv_iload_n hx hb dX5_leastRank_17 rfl (lv_at hl 0 rfl) ?_
    refine lv_bipush (v := nI 10) hx hb dX5_leastRank_18 (by decide) ?_
    refine xIcmpNe C (tgt := 28) (by have := lstM_le (c := c1) (d := d1) (bu := -6) (ly := -6) (se := 0) hW; rw [lstM_now hW (by omega)] at this; omega) (by decide) dX5_leastRank_20 (by decide) (fun h_20 => ?_) (fun h_20 => ?_)
    · skip
      refine lv_iload_n hx hb dX5_leastRank_28 rfl (lv_at hl 0 rfl) ?_
      exact xRetI hx hb hret (v := nI (lstT (V 0) (TV V) c1 d1)) (retS (S2 := (V, ln, P, kt, HH, HB, LL)) (by simp [opLeast, h_5, g1, g2, t_c1, t_d1, h_20]) ⟨hs, sl, sv, pd, g_13, td, rfl, hH, hpd, hsv⟩) hP hD hS dX5_leastRank_29 hlocks
    · skip
      refine lv_bipush (v := (-6)) hx hb dX5_leastRank_23 (by decide) ?_
      refine lv_goto (tgt := 29) hx hb dX5_leastRank_25 (by decide) ?_
      exact xRetI hx hb hret (v := (-6)) (retS (S2 := (V, ln, P, kt, HH, HB, LL)) (by simp [opLeast, h_5, g1, g2, t_c1, t_d1, h_20]) ⟨hs, sl, sv, pd, g_13, td, rfl, hH, hpd, hsv⟩) hP hD hS dX5_leastRank_29 hlocks
  · skip
    refine lv_iconst (v := (-1)) hx hb dX5_leastRank_8 (by decide) ?_
    exact xRetI hx hb hret (v := (-1)) (retS (S2 := (V, ln, P, kt, HH, HB, LL)) (by simp [opLeast, h_5]) ⟨hs, sl, sv, pd, sg, td, rfl, hH, hpd, hsv⟩) hP hD hS dX5_leastRank_9 hlocks

set_option maxHeartbeats 8000000 in
set_option maxRecDepth 100000 in
theorem c_X5_ifStruck (xl : Launch) (D : va_G) (kA : Nat → ClassId) (a : Nat → Nat) (V : Nat → Nat) (hs sl sv pd sg : Nat → Int32) (kt ln td : Nat) (P : Nat → Nat) (HH : Nat → Nat → Nat) (HB : Nat → Bool) (LL : Nat → Nat → Nat) (hI : InvS (V, ln, P, kt, HH, HB, LL)) (hH : relH hs kt HH) (hpd : relP pd ln P) (hsv : relS sv sl HB LL) (x : Int32) (A : Nat → Prop) : Met xl yX5_ifStruck wsX5_ifStruck { frames := 7, cells := 0, slots := 0, locals := 166 } (va_Pc [.ref (a 0), .int x] (xPw D kA A [((a 0), .inr (5, [.ref (a 1), .ref (a 2), .int (nI kt), .ref (a 3), .ref (a 4), .ref (a 5), .int (nI ln), .ref (a 6), .int (nI td)])), ((a 1), .inl (kA 0, 169, .inl (vI V))), ((a 2), .inl (kA 0, 1014, .inl (hs))), ((a 3), .inl (kA 0, 338, .inl (sl))), ((a 4), .inl (kA 2, 2, .inl (sv))), ((a 5), .inl (kA 0, 60, .inl (pd))), ((a 6), .inl (kA 0, 5, .inl (sg)))])) (xQi D A (fun r u => r = (opIf (V, ln, P, kt, HH, HB, LL) x).1 ∧ ModR kA a (opIf (V, ln, P, kt, HH, HB, LL) x).2 u)) 0 0 A := by
  refine Met.ofW (cc := cX5_ifStruck) (maxL := 2) (ret := (some .int)) (by decide) rfl ?_
  intro xp xe xs xm args xbe xme xc s₁ B hml hv
  obtain ⟨rfl, hP, hN, hD, hA⟩ := hv
  have hret := B.returns
  have C : CallFix xp xm xc cX5_ifStruck 2 xs ([.ref (a 0), .int x] : List Value).toArray wsX5_ifStruck RX5 := ⟨B.exec, B.bytes, hml, findClass_of_methodNamed B.named, atoms_spec (ws := wsX5_ifStruck) B.pre⟩
  have hlocks := B.notSynchronized
  obtain ⟨hx, hb, _, hown, hts⟩ := id C
  have hS : va_S A xs.heap xs.heap [] := va_S.rf
  have hl := lv_entry ([.ref (a 0), .int x]) (n := 2) (Nat.le_of_ble_eq_true rfl)
  rw [lg_entry_eq]
  generalize (lg_sl ([.ref (a 0), .int x]) ++ List.replicate (2 - (lg_sl ([.ref (a 0), .int x])).length) Slot.unset).toArray = ls at hl ⊢
  have hl : lv_has ls 2 [(0, .ref (a 0)), (1, .int x)] := hl
  obtain ⟨⟨hV, hW, hM, hG⟩, hm, hwP, hk, hIH, hIL⟩ := hI
  refine lv_aload_n hx hb dX5_ifStruck_0 rfl (lv_at hl 0 rfl) ?_
  refine lv_iload_n hx hb dX5_ifStruck_1 rfl (lv_at hl 1 rfl) ?_
  refine xVro C hN (As := [.int x]) (rest := []) (q0 := 0) (c_X5_isRule xl D kA a V hs sl sv pd sg kt ln td hV hW x) (cwV 1 hts gX5_ifStruck_X5_isRule rfl rfl rfl (by decide +kernel) ⟨Nat.le_of_ble_eq_true rfl, Nat.le_of_ble_eq_true rfl⟩) hP rfl rfl rfl rfl hl.1 rfl (Nat.le_of_ble_eq_true rfl) dX5_ifStruck_2 ⟨Nat.le_of_ble_eq_true rfl, Nat.le_of_ble_eq_true rfl⟩ ?_
  refine xIfEqB C (tgt := 28) dX5_ifStruck_5 (by decide) (fun h_5 => ?_) (fun h_5 => ?_)
  · skip
    refine lv_iconst (v := (-1)) hx hb dX5_ifStruck_28 (by decide) ?_
    exact xRetI hx hb hret (v := (-1)) (retS (S2 := (V, ln, P, kt, HH, HB, LL)) (by simp [opIf, h_5]) ⟨hs, sl, sv, pd, sg, td, rfl, hH, hpd, hsv⟩) hP hD hS dX5_ifStruck_29 hlocks
  · skip
    obtain ⟨i, a_i, e_i, t_i⟩ := hasB_ex h_5 (by omega)
    rw [e_i] at hl
    skip
    refine lv_sipush (v := nI 1000) hx hb dX5_ifStruck_8 (by decide) ?_
    refine lv_aload_n hx hb dX5_ifStruck_11 rfl (lv_at hl 0 rfl) ?_
    refine lv_iload_n hx hb dX5_ifStruck_12 rfl (lv_at hl 1 rfl) ?_
    refine lv_bipush (v := (-6)) hx hb dX5_ifStruck_13 (by decide) ?_
    refine lv_iconst (v := nI 0) hx hb dX5_ifStruck_15 (by decide) ?_
    refine xWWi hS (va_runV (As := [.int (nI i), .int (-6), .int (nI 0)]) (rest := [.int (nI 1000)]) C (c_X5_triples xl D kA a V hs sl sv pd sg kt ln td hV hW (nI i) (-6) 0 (by omega) A) (cwV 3 hts gX5_ifStruck_X5_triples rfl rfl rfl (by decide +kernel) ⟨Nat.le_of_ble_eq_true rfl, Nat.le_of_ble_eq_true rfl⟩) (xPreVw (q0 := 0) hN hP hD (xAll hS hA) rfl rfl rfl) rfl rfl hl.1 rfl (lv_room (Nat.le_of_ble_eq_true rfl)) dX5_ifStruck_16 ⟨Nat.le_of_ble_eq_true rfl, Nat.le_of_ble_eq_true rfl⟩) (fun r_16 u_16 H locs hq_16 hP hD hS => ?_)
    obtain ⟨rfl, g_16, rfl⟩ := hq_16
    have hP : va_P D vwCl [((a 0), .inr (5, [.ref (a 1), .ref (a 2), .int (nI kt), .ref (a 3), .ref (a 4), .ref (a 5), .int (nI ln), .ref (a 6), .int (nI td)])), ((a 1), .inl (kA 0, 169, .inl (vI V))), ((a 2), .inl (kA 0, 1014, .inl (hs))), ((a 3), .inl (kA 0, 338, .inl (sl))), ((a 4), .inl (kA 2, 2, .inl (sv))), ((a 5), .inl (kA 0, 60, .inl (pd))), ((a 6), .inl (kA 0, 5, .inl (g_16)))] H := hP
    have hD : va_D A [((a 0), .inr (5, [.ref (a 1), .ref (a 2), .int (nI kt), .ref (a 3), .ref (a 4), .ref (a 5), .int (nI ln), .ref (a 6), .int (nI td)])), ((a 1), .inl (kA 0, 169, .inl (vI V))), ((a 2), .inl (kA 0, 1014, .inl (hs))), ((a 3), .inl (kA 0, 338, .inl (sl))), ((a 4), .inl (kA 2, 2, .inl (sv))), ((a 5), .inl (kA 0, 60, .inl (pd))), ((a 6), .inl (kA 0, 5, .inl (g_16)))] := hD
    refine xTop (y := nI (trpT (V 0 - 1) (delT (TV V) i))) (congrArg nI (trpM_but hW (by omega) (by omega))) ?_
    refine xIadd C dX5_ifStruck_19 ?_
    refine lv_aload_n hx hb dX5_ifStruck_20 rfl (lv_at hl 0 rfl) ?_
    refine xWWi hS (va_runV (As := []) (rest := [.int (nI (1000 + (trpT (V 0 - 1) (delT (TV V) i))))]) C (c_X5_triplesNow xl D kA a V hs sl sv pd g_16 kt ln td hV hW A) (cwV 0 hts gX5_ifStruck_X5_triplesNow rfl rfl rfl (by decide +kernel) ⟨Nat.le_of_ble_eq_true rfl, Nat.le_of_ble_eq_true rfl⟩) (xPreVw (q0 := 0) hN hP hD (xAll hS hA) rfl rfl rfl) rfl rfl hl.1 rfl (lv_room (Nat.le_of_ble_eq_true rfl)) dX5_ifStruck_21 ⟨Nat.le_of_ble_eq_true rfl, Nat.le_of_ble_eq_true rfl⟩) (fun r_21 u_21 H locs hq_21 hP hD hS => ?_)
    obtain ⟨rfl, g_21, rfl⟩ := hq_21
    have hP : va_P D vwCl [((a 0), .inr (5, [.ref (a 1), .ref (a 2), .int (nI kt), .ref (a 3), .ref (a 4), .ref (a 5), .int (nI ln), .ref (a 6), .int (nI td)])), ((a 1), .inl (kA 0, 169, .inl (vI V))), ((a 2), .inl (kA 0, 1014, .inl (hs))), ((a 3), .inl (kA 0, 338, .inl (sl))), ((a 4), .inl (kA 2, 2, .inl (sv))), ((a 5), .inl (kA 0, 60, .inl (pd))), ((a 6), .inl (kA 0, 5, .inl (g_21)))] H := hP
    have hD : va_D A [((a 0), .inr (5, [.ref (a 1), .ref (a 2), .int (nI kt), .ref (a 3), .ref (a 4), .ref (a 5), .int (nI ln), .ref (a 6), .int (nI td)])), ((a 1), .inl (kA 0, 169, .inl (vI V))), ((a 2), .inl (kA 0, 1014, .inl (hs))), ((a 3), .inl (kA 0, 338, .inl (sl))), ((a 4), .inl (kA 2, 2, .inl (sv))), ((a 5), .inl (kA 0, 60, .inl (pd))), ((a 6), .inl (kA 0, 5, .inl (g_21)))] := hD
    refine xTop (y := nI (trpT (V 0) (TV V))) (congrArg nI (trpM_now hW (by omega))) ?_
    refine xIsub C (by have := trp_le (n := V 0) (T := TV V); omega) dX5_ifStruck_24 ?_
    refine lv_goto (tgt := 29) hx hb dX5_ifStruck_25 (by decide) ?_
    exact xRetI hx hb hret (v := nI ((1000 + (trpT (V 0 - 1) (delT (TV V) i))) - (trpT (V 0) (TV V)))) (retS (S2 := (V, ln, P, kt, HH, HB, LL)) (by simp [opIf, h_5, t_i]) ⟨hs, sl, sv, pd, g_21, td, rfl, hH, hpd, hsv⟩) hP hD hS dX5_ifStruck_29 hlocks

set_option maxHeartbeats 8000000 in
set_option maxRecDepth 100000 in
theorem c_X5_worstBan (xl : Launch) (D : va_G) (kA : Nat → ClassId) (a : Nat → Nat) (V : Nat → Nat) (hs sl sv pd sg : Nat → Int32) (kt ln td : Nat) (P : Nat → Nat) (HH : Nat → Nat → Nat) (HB : Nat → Bool) (LL : Nat → Nat → Nat) (hI : InvS (V, ln, P, kt, HH, HB, LL)) (hH : relH hs kt HH) (hpd : relP pd ln P) (hsv : relS sv sl HB LL) (A : Nat → Prop) : Met xl yX5_worstBan wsX5_worstBan { frames := 6, cells := 0, slots := 0, locals := 146 } (va_Pc [.ref (a 0)] (xPw D kA A [((a 0), .inr (5, [.ref (a 1), .ref (a 2), .int (nI kt), .ref (a 3), .ref (a 4), .ref (a 5), .int (nI ln), .ref (a 6), .int (nI td)])), ((a 1), .inl (kA 0, 169, .inl (vI V))), ((a 2), .inl (kA 0, 1014, .inl (hs))), ((a 3), .inl (kA 0, 338, .inl (sl))), ((a 4), .inl (kA 2, 2, .inl (sv))), ((a 5), .inl (kA 0, 60, .inl (pd))), ((a 6), .inl (kA 0, 5, .inl (sg)))])) (xQi D A (fun r u => r = (opWorst (V, ln, P, kt, HH, HB, LL) ).1 ∧ ModR kA a (opWorst (V, ln, P, kt, HH, HB, LL) ).2 u)) 0 0 A := by
  refine Met.ofW (cc := cX5_worstBan) (maxL := 6) (ret := (some .int)) (by decide) rfl ?_
  intro xp xe xs xm args xbe xme xc s₁ B hml hv
  obtain ⟨rfl, hP, hN, hD, hA⟩ := hv
  have hret := B.returns
  have C : CallFix xp xm xc cX5_worstBan 6 xs ([.ref (a 0)] : List Value).toArray wsX5_worstBan RX5 := ⟨B.exec, B.bytes, hml, findClass_of_methodNamed B.named, atoms_spec (ws := wsX5_worstBan) B.pre⟩
  have hlocks := B.notSynchronized
  obtain ⟨hx, hb, _, hown, hts⟩ := id C
  have hS : va_S A xs.heap xs.heap [] := va_S.rf
  have hl := lv_entry ([.ref (a 0)]) (n := 6) (Nat.le_of_ble_eq_true rfl)
  rw [lg_entry_eq]
  generalize (lg_sl ([.ref (a 0)]) ++ List.replicate (6 - (lg_sl ([.ref (a 0)])).length) Slot.unset).toArray = ls at hl ⊢
  have hl : lv_has ls 6 [(0, .ref (a 0))] := hl
  obtain ⟨⟨hV, hW, hM, hG⟩, hm, hwP, hk, hIH, hIL⟩ := hI
  refine lv_bipush (v := (-6)) hx hb dX5_worstBan_0 (by decide) ?_
  refine lv_istore_n (lv' := [(1, .int (-6)), (0, .ref (a 0))]) hx hb dX5_worstBan_2 rfl hl (by decide) rfl (fun ls hl => ?_)
  refine lv_iconst (v := nI 0) hx hb dX5_worstBan_3 (by decide) ?_
  refine lv_istore_n (lv' := [(2, .int (nI 0)), (1, .int (-6)), (0, .ref (a 0))]) hx hb dX5_worstBan_4 rfl hl (by decide) rfl (fun ls hl => ?_)
  refine lv_iconst (v := nI 0) hx hb dX5_worstBan_5 (by decide) ?_
  refine lv_istore_n (lv' := [(3, .int (nI 0)), (2, .int (nI 0)), (1, .int (-6)), (0, .ref (a 0))]) hx hb dX5_worstBan_6 rfl hl (by decide) rfl (fun ls hl => ?_)
  have L7 : ∀ (fuel : Nat), ∀ (i : Nat) (x : Int32) (t : Nat) (g1 : Nat → Int32) (hmu : V 0 - i < fuel) (hi : i ≤ V 0) (ht3 : t ≤ 300) (hxt : (x, t) = wbF V i) (H : Heap) (locs : List Loc) (_ : va_P D vwCl [((a 0), .inr (5, [.ref (a 1), .ref (a 2), .int (nI kt), .ref (a 3), .ref (a 4), .ref (a 5), .int (nI ln), .ref (a 6), .int (nI td)])), ((a 1), .inl (kA 0, 169, .inl (vI V))), ((a 2), .inl (kA 0, 1014, .inl (hs))), ((a 3), .inl (kA 0, 338, .inl (sl))), ((a 4), .inl (kA 2, 2, .inl (sv))), ((a 5), .inl (kA 0, 60, .inl (pd))), ((a 6), .inl (kA 0, 5, .inl (g1)))] H) (_ : va_D A [((a 0), .inr (5, [.ref (a 1), .ref (a 2), .int (nI kt), .ref (a 3), .ref (a 4), .ref (a 5), .int (nI ln), .ref (a 6), .int (nI td)])), ((a 1), .inl (kA 0, 169, .inl (vI V))), ((a 2), .inl (kA 0, 1014, .inl (hs))), ((a 3), .inl (kA 0, 338, .inl (sl))), ((a 4), .inl (kA 2, 2, .inl (sv))), ((a 5), .inl (kA 0, 60, .inl (pd))), ((a 6), .inl (kA 0, 5, .inl (g1)))]) (_ : va_S A xs.heap H locs) (ls : Array Slot) (_ : lv_has ls 6 [(3, .int (nI i)), (2, .int (nI t)), (1, .int x), (0, .ref (a 0))]), W xp xl xe (headSpec wsX5_worstBan { frames := 6, cells := 0, slots := 0, locals := 146 }).room xs xm ([.ref (a 0)] : List Value).toArray xbe xme xc H locs 0 0 (MQ xbe (xQi D A (fun r u => r = (opWorst (V, ln, P, kt, HH, HB, LL) ).1 ∧ ModR kA a (opWorst (V, ln, P, kt, HH, HB, LL) ).2 u)) ([.ref (a 0)] : List Value).toArray xs 0 0 A) (F0 xm 7 ls []) := by
    intro fuel
    induction fuel with
    | zero => intro i x t g1 hmu; exact absurd hmu (Nat.not_lt_zero _)
    | succ fuel ih7 =>
      intro i x t g1 hmu hi ht3 hxt H locs hP hD hS ls hl
      refine lv_iload_n hx hb dX5_worstBan_7 rfl (lv_at hl 0 rfl) ?_
      refine lv_aload_n hx hb dX5_worstBan_8 rfl (lv_at hl 3 rfl) ?_
      refine xGet C hN hP 0 (j := 0) rfl rfl iX5_worstBan_X5 (by decide) kX5_worstBan_7 rfl rfl dX5_worstBan_9 ?_
      refine lv_iconst (v := nI 0) hx hb dX5_worstBan_12 (by decide) ?_
      refine xIald C hN hP 1 (j := 0) (v := nI (V 0)) rfl (by omega) (by decide) (rfl) dX5_worstBan_13 ?_
      refine xIcmpGe C (tgt := 85) (by omega) (by omega) dX5_worstBan_14 (by decide) (fun h_14 => ?_) (fun h_14 => ?_)
      · skip
        refine lv_iload_n hx hb dX5_worstBan_85 rfl (lv_at hl 2 rfl) ?_
        exact xRetI hx hb hret (v := x) (retS (S2 := (V, ln, P, kt, HH, HB, LL)) (by simp [opWorst, ← show i = V 0 by omega, ← hxt]) ⟨hs, sl, sv, pd, g1, td, rfl, hH, hpd, hsv⟩) hP hD hS dX5_worstBan_86 hlocks
      · skip
        refine lv_aload_n hx hb dX5_worstBan_17 rfl (lv_at hl 3 rfl) ?_
        refine lv_iload_n hx hb dX5_worstBan_18 rfl (lv_at hl 0 rfl) ?_
        refine lv_iconst (v := nI 1) hx hb dX5_worstBan_19 (by decide) ?_
        refine xVro C hN (As := [.int (nI i), .int (nI 1)]) (rest := []) (q0 := 0) (c_X5_of xl D kA a V hs sl sv pd g1 kt ln td i 1 (by omega) (by omega)) (cwV 2 hts gX5_worstBan_X5_of rfl rfl rfl (by decide +kernel) ⟨Nat.le_of_ble_eq_true rfl, Nat.le_of_ble_eq_true rfl⟩) hP rfl rfl rfl rfl hl.1 rfl (Nat.le_of_ble_eq_true rfl) dX5_worstBan_20 ⟨Nat.le_of_ble_eq_true rfl, Nat.le_of_ble_eq_true rfl⟩ ?_
        refine lv_iconst (v := nI 1) hx hb dX5_worstBan_23 (by decide) ?_
        refine xIcmpNe C (tgt := 79) (by have := hW i (by omega); omega) (by decide) dX5_worstBan_24 (by decide) (fun h_24 => ?_) (fun h_24 => ?_)
        · skip
          refine xIinc C (kx := 0) (d := 1) (lv' := [(3, .int (nI (i + 1))), (2, .int (nI t)), (1, .int x), (0, .ref (a 0))]) dX5_worstBan_79 hl rfl (by decide) (by decide) rfl (fun ls hl => ?_)
          refine lv_goto (tgt := 7) hx hb dX5_worstBan_82 (by decide) ?_
          have hP : va_P D vwCl [((a 0), .inr (5, [.ref (a 1), .ref (a 2), .int (nI kt), .ref (a 3), .ref (a 4), .ref (a 5), .int (nI ln), .ref (a 6), .int (nI td)])), ((a 1), .inl (kA 0, 169, .inl (vI V))), ((a 2), .inl (kA 0, 1014, .inl (hs))), ((a 3), .inl (kA 0, 338, .inl (sl))), ((a 4), .inl (kA 2, 2, .inl (sv))), ((a 5), .inl (kA 0, 60, .inl (pd))), ((a 6), .inl (kA 0, 5, .inl (g1)))] H := hP
          exact ih7 (i + 1) x t g1 (by omega) (by omega) (by first | omega | exact trp_le) (by first | exact wb_t h_24 (Or.inl h_40) hxt | exact wb_t h_24 (Or.inr h_46) hxt | exact wb_f (Or.inr ⟨h_40, h_46⟩) hxt | exact wb_f (Or.inl h_24) hxt) _ _ hP hD hS _ (lv_sub hl [0, 1, 2, 3] rfl)
        · skip
          refine lv_aload_n hx hb dX5_worstBan_27 rfl (lv_at hl 3 rfl) ?_
          refine lv_iload_n hx hb dX5_worstBan_28 rfl (lv_at hl 0 rfl) ?_
          refine lv_bipush (v := (-6)) hx hb dX5_worstBan_29 (by decide) ?_
          refine lv_iconst (v := nI 0) hx hb dX5_worstBan_31 (by decide) ?_
          refine xWWi hS (va_runV (As := [.int (nI i), .int (-6), .int (nI 0)]) (rest := []) C (c_X5_triples xl D kA a V hs sl sv pd g1 kt ln td hV hW (nI i) (-6) 0 (by omega) A) (cwV 3 hts gX5_worstBan_X5_triples rfl rfl rfl (by decide +kernel) ⟨Nat.le_of_ble_eq_true rfl, Nat.le_of_ble_eq_true rfl⟩) (xPreVw (q0 := 0) hN hP hD (xAll hS hA) rfl rfl rfl) rfl rfl hl.1 rfl (lv_room (Nat.le_of_ble_eq_true rfl)) dX5_worstBan_32 ⟨Nat.le_of_ble_eq_true rfl, Nat.le_of_ble_eq_true rfl⟩) (fun r_32 u_32 H locs hq_32 hP hD hS => ?_)
          obtain ⟨rfl, g_32, rfl⟩ := hq_32
          have hP : va_P D vwCl [((a 0), .inr (5, [.ref (a 1), .ref (a 2), .int (nI kt), .ref (a 3), .ref (a 4), .ref (a 5), .int (nI ln), .ref (a 6), .int (nI td)])), ((a 1), .inl (kA 0, 169, .inl (vI V))), ((a 2), .inl (kA 0, 1014, .inl (hs))), ((a 3), .inl (kA 0, 338, .inl (sl))), ((a 4), .inl (kA 2, 2, .inl (sv))), ((a 5), .inl (kA 0, 60, .inl (pd))), ((a 6), .inl (kA 0, 5, .inl (g_32)))] H := hP
          have hD : va_D A [((a 0), .inr (5, [.ref (a 1), .ref (a 2), .int (nI kt), .ref (a 3), .ref (a 4), .ref (a 5), .int (nI ln), .ref (a 6), .int (nI td)])), ((a 1), .inl (kA 0, 169, .inl (vI V))), ((a 2), .inl (kA 0, 1014, .inl (hs))), ((a 3), .inl (kA 0, 338, .inl (sl))), ((a 4), .inl (kA 2, 2, .inl (sv))), ((a 5), .inl (kA 0, 60, .inl (pd))), ((a 6), .inl (kA 0, 5, .inl (g_32)))] := hD
          refine xTop (y := nI (trpT (V 0 - 1) (delT (TV V) i))) (congrArg nI (trpM_but hW (by omega) (by omega))) ?_
          refine lv_istore (lv' := [(4, .int (nI (trpT (V 0 - 1) (delT (TV V) i)))), (3, .int (nI i)), (2, .int (nI t)), (1, .int x), (0, .ref (a 0))]) hx hb dX5_worstBan_35 hl (by decide) rfl (fun ls hl => ?_)
          refine lv_iload_n hx hb dX5_worstBan_37 rfl (lv_at hl 3 rfl) ?_
          refine lv_bipush (v := (-6)) hx hb dX5_worstBan_38 (by decide) ?_
          refine lv_icmp_eq (tgt := 49) hx hb dX5_worstBan_40 (by decide) (fun h_40 => ?_) (fun h_40 => ?_)
          · skip
            refine lv_iconst (v := nI 1) hx hb dX5_worstBan_49 (by decide) ?_
            refine lv_goto (tgt := 54) hx hb dX5_worstBan_50 (by decide) ?_
            refine lv_istore (lv' := [(5, .int (nI 1)), (4, .int (nI (trpT (V 0 - 1) (delT (TV V) i)))), (3, .int (nI i)), (2, .int (nI t)), (1, .int x), (0, .ref (a 0))]) hx hb dX5_worstBan_54 hl (by decide) rfl (fun ls hl => ?_)
            refine lv_iload hx hb dX5_worstBan_56 (lv_at hl 0 rfl) ?_
            refine xIfEq C (tgt := 65) (by omega) dX5_worstBan_58 (by decide) (fun h_58 => ?_) (fun h_58 => ?_)
            · exact absurd h_58 (by decide)
            · skip
              refine lv_iload_n hx hb dX5_worstBan_61 rfl (lv_at hl 2 rfl) ?_
              refine lv_goto (tgt := 66) hx hb dX5_worstBan_62 (by decide) ?_
              refine lv_istore_n (lv' := [(1, .int (nI i)), (5, .int (nI 1)), (4, .int (nI (trpT (V 0 - 1) (delT (TV V) i)))), (3, .int (nI i)), (2, .int (nI t)), (0, .ref (a 0))]) hx hb dX5_worstBan_66 rfl hl (by decide) rfl (fun ls hl => ?_)
              refine lv_iload hx hb dX5_worstBan_67 (lv_at hl 1 rfl) ?_
              refine xIfEq C (tgt := 77) (by omega) dX5_worstBan_69 (by decide) (fun h_69 => ?_) (fun h_69 => ?_)
              · exact absurd h_69 (by decide)
              · skip
                refine lv_iload hx hb dX5_worstBan_72 (lv_at hl 2 rfl) ?_
                refine lv_goto (tgt := 78) hx hb dX5_worstBan_74 (by decide) ?_
                refine lv_istore_n (lv' := [(2, .int (nI (trpT (V 0 - 1) (delT (TV V) i)))), (1, .int (nI i)), (5, .int (nI 1)), (4, .int (nI (trpT (V 0 - 1) (delT (TV V) i)))), (3, .int (nI i)), (0, .ref (a 0))]) hx hb dX5_worstBan_78 rfl hl (by decide) rfl (fun ls hl => ?_)
                refine xIinc C (kx := 4) (d := 1) (lv' := [(3, .int (nI (i + 1))), (2, .int (nI (trpT (V 0 - 1) (delT (TV V) i)))), (1, .int (nI i)), (5, .int (nI 1)), (4, .int (nI (trpT (V 0 - 1) (delT (TV V) i)))), (0, .ref (a 0))]) dX5_worstBan_79 hl rfl (by decide) (by decide) rfl (fun ls hl => ?_)
                refine lv_goto (tgt := 7) hx hb dX5_worstBan_82 (by decide) ?_
                have hP : va_P D vwCl [((a 0), .inr (5, [.ref (a 1), .ref (a 2), .int (nI kt), .ref (a 3), .ref (a 4), .ref (a 5), .int (nI ln), .ref (a 6), .int (nI td)])), ((a 1), .inl (kA 0, 169, .inl (vI V))), ((a 2), .inl (kA 0, 1014, .inl (hs))), ((a 3), .inl (kA 0, 338, .inl (sl))), ((a 4), .inl (kA 2, 2, .inl (sv))), ((a 5), .inl (kA 0, 60, .inl (pd))), ((a 6), .inl (kA 0, 5, .inl (g_32)))] H := hP
                exact ih7 (i + 1) (nI i) (trpT (V 0 - 1) (delT (TV V) i)) g_32 (by omega) (by omega) (by first | omega | exact trp_le) (by first | exact wb_t h_24 (Or.inl h_40) hxt | exact wb_t h_24 (Or.inr h_46) hxt | exact wb_f (Or.inr ⟨h_40, h_46⟩) hxt | exact wb_f (Or.inl h_24) hxt) _ _ hP hD hS _ (lv_sub hl [0, 1, 2, 5] rfl)
          · skip
            refine lv_iload hx hb dX5_worstBan_43 (lv_at hl 0 rfl) ?_
            refine lv_iload_n hx hb dX5_worstBan_45 rfl (lv_at hl 2 rfl) ?_
            refine xIcmpLe C (tgt := 53) (by have := trp_le (n := V 0 - 1) (T := delT (TV V) i); omega) (by omega) dX5_worstBan_46 (by decide) (fun h_46 => ?_) (fun h_46 => ?_)
            · skip
              refine lv_iconst (v := nI 0) hx hb dX5_worstBan_53 (by decide) ?_
              refine lv_istore (lv' := [(5, .int (nI 0)), (4, .int (nI (trpT (V 0 - 1) (delT (TV V) i)))), (3, .int (nI i)), (2, .int (nI t)), (1, .int x), (0, .ref (a 0))]) hx hb dX5_worstBan_54 hl (by decide) rfl (fun ls hl => ?_)
              refine lv_iload hx hb dX5_worstBan_56 (lv_at hl 0 rfl) ?_
              refine xIfEq C (tgt := 65) (by omega) dX5_worstBan_58 (by decide) (fun h_58 => ?_) (fun h_58 => ?_)
              · skip
                refine lv_iload_n hx hb dX5_worstBan_65 rfl (lv_at hl 4 rfl) ?_
                refine lv_istore_n (lv' := [(1, .int x), (5, .int (nI 0)), (4, .int (nI (trpT (V 0 - 1) (delT (TV V) i)))), (3, .int (nI i)), (2, .int (nI t)), (0, .ref (a 0))]) hx hb dX5_worstBan_66 rfl hl (by decide) rfl (fun ls hl => ?_)
                refine lv_iload hx hb dX5_worstBan_67 (lv_at hl 1 rfl) ?_
                refine xIfEq C (tgt := 77) (by omega) dX5_worstBan_69 (by decide) (fun h_69 => ?_) (fun h_69 => ?_)
                · skip
                  refine lv_iload_n hx hb dX5_worstBan_77 rfl (lv_at hl 4 rfl) ?_
                  refine lv_istore_n (lv' := [(2, .int (nI t)), (1, .int x), (5, .int (nI 0)), (4, .int (nI (trpT (V 0 - 1) (delT (TV V) i)))), (3, .int (nI i)), (0, .ref (a 0))]) hx hb dX5_worstBan_78 rfl hl (by decide) rfl (fun ls hl => ?_)
                  refine xIinc C (kx := 4) (d := 1) (lv' := [(3, .int (nI (i + 1))), (2, .int (nI t)), (1, .int x), (5, .int (nI 0)), (4, .int (nI (trpT (V 0 - 1) (delT (TV V) i)))), (0, .ref (a 0))]) dX5_worstBan_79 hl rfl (by decide) (by decide) rfl (fun ls hl => ?_)
                  refine lv_goto (tgt := 7) hx hb dX5_worstBan_82 (by decide) ?_
                  have hP : va_P D vwCl [((a 0), .inr (5, [.ref (a 1), .ref (a 2), .int (nI kt), .ref (a 3), .ref (a 4), .ref (a 5), .int (nI ln), .ref (a 6), .int (nI td)])), ((a 1), .inl (kA 0, 169, .inl (vI V))), ((a 2), .inl (kA 0, 1014, .inl (hs))), ((a 3), .inl (kA 0, 338, .inl (sl))), ((a 4), .inl (kA 2, 2, .inl (sv))), ((a 5), .inl (kA 0, 60, .inl (pd))), ((a 6), .inl (kA 0, 5, .inl (g_32)))] H := hP
                  exact ih7 (i + 1) x t g_32 (by omega) (by omega) (by first | omega | exact trp_le) (by first | exact wb_t h_24 (Or.inl h_40) hxt | exact wb_t h_24 (Or.inr h_46) hxt | exact wb_f (Or.inr ⟨h_40, h_46⟩) hxt | exact wb_f (Or.inl h_24) hxt) _ _ hP hD hS _ (lv_sub hl [0, 1, 2, 5] rfl)
                · exact absurd h_69 (by decide)
              · exact absurd h_58 (by decide)
            · skip
              refine lv_iconst (v := nI 1) hx hb dX5_worstBan_49 (by decide) ?_
              refine lv_goto (tgt := 54) hx hb dX5_worstBan_50 (by decide) ?_
              refine lv_istore (lv' := [(5, .int (nI 1)), (4, .int (nI (trpT (V 0 - 1) (delT (TV V) i)))), (3, .int (nI i)), (2, .int (nI t)), (1, .int x), (0, .ref (a 0))]) hx hb dX5_worstBan_54 hl (by decide) rfl (fun ls hl => ?_)
              refine lv_iload hx hb dX5_worstBan_56 (lv_at hl 0 rfl) ?_
              refine xIfEq C (tgt := 65) (by omega) dX5_worstBan_58 (by decide) (fun h_58 => ?_) (fun h_58 => ?_)
              · exact absurd h_58 (by decide)
              · skip
                refine lv_iload_n hx hb dX5_worstBan_61 rfl (lv_at hl 2 rfl) ?_
                refine lv_goto (tgt := 66) hx hb dX5_worstBan_62 (by decide) ?_
                refine lv_istore_n (lv' := [(1, .int (nI i)), (5, .int (nI 1)), (4, .int (nI (trpT (V 0 - 1) (delT (TV V) i)))), (3, .int (nI i)), (2, .int (nI t)), (0, .ref (a 0))]) hx hb dX5_worstBan_66 rfl hl (by decide) rfl (fun ls hl => ?_)
                refine lv_iload hx hb dX5_worstBan_67 (lv_at hl 1 rfl) ?_
                refine xIfEq C (tgt := 77) (by omega) dX5_worstBan_69 (by decide) (fun h_69 => ?_) (fun h_69 => ?_)
                · exact absurd h_69 (by decide)
                · skip
                  refine lv_iload hx hb dX5_worstBan_72 (lv_at hl 2 rfl) ?_
                  refine lv_goto (tgt := 78) hx hb dX5_worstBan_74 (by decide) ?_
                  refine lv_istore_n (lv' := [(2, .int (nI (trpT (V 0 - 1) (delT (TV V) i)))), (1, .int (nI i)), (5, .int (nI 1)), (4, .int (nI (trpT (V 0 - 1) (delT (TV V) i)))), (3, .int (nI i)), (0, .ref (a 0))]) hx hb dX5_worstBan_78 rfl hl (by decide) rfl (fun ls hl => ?_)
                  refine xIinc C (kx := 4) (d := 1) (lv' := [(3, .int (nI (i + 1))), (2, .int (nI (trpT (V 0 - 1) (delT (TV V) i)))), (1, .int (nI i)), (5, .int (nI 1)), (4, .int (nI (trpT (V 0 - 1) (delT (TV V) i)))), (0, .ref (a 0))]) dX5_worstBan_79 hl rfl (by decide) (by decide) rfl (fun ls hl => ?_)
                  refine lv_goto (tgt := 7) hx hb dX5_worstBan_82 (by decide) ?_
                  have hP : va_P D vwCl [((a 0), .inr (5, [.ref (a 1), .ref (a 2), .int (nI kt), .ref (a 3), .ref (a 4), .ref (a 5), .int (nI ln), .ref (a 6), .int (nI td)])), ((a 1), .inl (kA 0, 169, .inl (vI V))), ((a 2), .inl (kA 0, 1014, .inl (hs))), ((a 3), .inl (kA 0, 338, .inl (sl))), ((a 4), .inl (kA 2, 2, .inl (sv))), ((a 5), .inl (kA 0, 60, .inl (pd))), ((a 6), .inl (kA 0, 5, .inl (g_32)))] H := hP
                  exact ih7 (i + 1) (nI i) (trpT (V 0 - 1) (delT (TV V) i)) g_32 (by omega) (by omega) (by first | omega | exact trp_le) (by first | exact wb_t h_24 (Or.inl h_40) hxt | exact wb_t h_24 (Or.inr h_46) hxt | exact wb_f (Or.inr ⟨h_40, h_46⟩) hxt | exact wb_f (Or.inl h_24) hxt) _ _ hP hD hS _ (lv_sub hl [0, 1, 2, 5] rfl)
  exact L7 _ 0 (-6) 0 sg (Nat.lt_succ_self _) (by omega) (by omega) rfl _ _ hP hD hS _ (lv_sub hl [0, 1, 2, 3] rfl)

set_option maxHeartbeats 8000000 in
set_option maxRecDepth 100000 in
theorem c_X5_bestWaiver (xl : Launch) (D : va_G) (kA : Nat → ClassId) (a : Nat → Nat) (V : Nat → Nat) (hs sl sv pd sg : Nat → Int32) (kt ln td : Nat) (P : Nat → Nat) (HH : Nat → Nat → Nat) (HB : Nat → Bool) (LL : Nat → Nat → Nat) (hI : InvS (V, ln, P, kt, HH, HB, LL)) (hH : relH hs kt HH) (hpd : relP pd ln P) (hsv : relS sv sl HB LL) (z : Int32) (A : Nat → Prop) : Met xl yX5_bestWaiver wsX5_bestWaiver { frames := 6, cells := 0, slots := 0, locals := 146 } (va_Pc [.ref (a 0), .int z] (xPw D kA A [((a 0), .inr (5, [.ref (a 1), .ref (a 2), .int (nI kt), .ref (a 3), .ref (a 4), .ref (a 5), .int (nI ln), .ref (a 6), .int (nI td)])), ((a 1), .inl (kA 0, 169, .inl (vI V))), ((a 2), .inl (kA 0, 1014, .inl (hs))), ((a 3), .inl (kA 0, 338, .inl (sl))), ((a 4), .inl (kA 2, 2, .inl (sv))), ((a 5), .inl (kA 0, 60, .inl (pd))), ((a 6), .inl (kA 0, 5, .inl (sg)))])) (xQi D A (fun r u => r = (opBest (V, ln, P, kt, HH, HB, LL) z).1 ∧ ModR kA a (opBest (V, ln, P, kt, HH, HB, LL) z).2 u)) 0 0 A := by
  refine Met.ofW (cc := cX5_bestWaiver) (maxL := 6) (ret := (some .int)) (by decide) rfl ?_
  intro xp xe xs xm args xbe xme xc s₁ B hml hv
  obtain ⟨rfl, hP, hN, hD, hA⟩ := hv
  have hret := B.returns
  have C : CallFix xp xm xc cX5_bestWaiver 6 xs ([.ref (a 0), .int z] : List Value).toArray wsX5_bestWaiver RX5 := ⟨B.exec, B.bytes, hml, findClass_of_methodNamed B.named, atoms_spec (ws := wsX5_bestWaiver) B.pre⟩
  have hlocks := B.notSynchronized
  obtain ⟨hx, hb, _, hown, hts⟩ := id C
  have hS : va_S A xs.heap xs.heap [] := va_S.rf
  have hl := lv_entry ([.ref (a 0), .int z]) (n := 6) (Nat.le_of_ble_eq_true rfl)
  rw [lg_entry_eq]
  generalize (lg_sl ([.ref (a 0), .int z]) ++ List.replicate (6 - (lg_sl ([.ref (a 0), .int z])).length) Slot.unset).toArray = ls at hl ⊢
  have hl : lv_has ls 6 [(0, .ref (a 0)), (1, .int z)] := hl
  obtain ⟨⟨hV, hW, hM, hG⟩, hm, hwP, hk, hIH, hIL⟩ := hI
  refine lv_iload_n hx hb dX5_bestWaiver_0 rfl (lv_at hl 1 rfl) ?_
  refine lv_iconst (v := nI 1) hx hb dX5_bestWaiver_1 (by decide) ?_
  refine lv_bipush (v := nI 9) hx hb dX5_bestWaiver_2 (by decide) ?_
  refine xSro C hN (As := [.int z, .int (nI 1), .int (nI 9)]) (rest := []) (c_X5_in xl D kA z (nI 1) (nI 9)) (va_cwS 3 hts gX5_bestWaiver_X5_in rfl rfl rfl (by decide +kernel) ⟨Nat.le_of_ble_eq_true rfl, Nat.le_of_ble_eq_true rfl⟩) (hP.sub (ws' := []) [] rfl) rfl hl.1 rfl (Nat.le_of_ble_eq_true rfl) dX5_bestWaiver_4 ⟨Nat.le_of_ble_eq_true rfl, Nat.le_of_ble_eq_true rfl⟩ ?_
  refine xIfNeB C (tgt := 13) dX5_bestWaiver_7 (by decide) (fun h_7 => ?_) (fun h_7 => ?_)
  · skip
    obtain ⟨z1, a_z1, b_z1, e_z1, t_z1⟩ := inR_ex h_7 (by decide) (by decide)
    rw [e_z1] at hl
    skip
    refine lv_iconst (v := nI 0) hx hb dX5_bestWaiver_13 (by decide) ?_
    refine lv_istore_n (lv' := [(2, .int (nI 0)), (0, .ref (a 0)), (1, .int (nI z1))]) hx hb dX5_bestWaiver_14 rfl hl (by decide) rfl (fun ls hl => ?_)
    refine lv_iconst (v := nI 0) hx hb dX5_bestWaiver_15 (by decide) ?_
    refine lv_istore_n (lv' := [(3, .int (nI 0)), (2, .int (nI 0)), (0, .ref (a 0)), (1, .int (nI z1))]) hx hb dX5_bestWaiver_16 rfl hl (by decide) rfl (fun ls hl => ?_)
    refine lv_iconst (v := nI 0) hx hb dX5_bestWaiver_17 (by decide) ?_
    refine lv_istore (lv' := [(4, .int (nI 0)), (3, .int (nI 0)), (2, .int (nI 0)), (0, .ref (a 0)), (1, .int (nI z1))]) hx hb dX5_bestWaiver_18 hl (by decide) rfl (fun ls hl => ?_)
    have L20 : ∀ (fuel : Nat), ∀ (l : Nat) (b : Nat) (t : Nat) (g1 : Nat → Int32) (hmu : 5 - l < fuel) (hl5 : l ≤ 5) (ht3 : t ≤ 300) (hbt : (b, t) = bwF V z1 l) (H : Heap) (locs : List Loc) (_ : va_P D vwCl [((a 0), .inr (5, [.ref (a 1), .ref (a 2), .int (nI kt), .ref (a 3), .ref (a 4), .ref (a 5), .int (nI ln), .ref (a 6), .int (nI td)])), ((a 1), .inl (kA 0, 169, .inl (vI V))), ((a 2), .inl (kA 0, 1014, .inl (hs))), ((a 3), .inl (kA 0, 338, .inl (sl))), ((a 4), .inl (kA 2, 2, .inl (sv))), ((a 5), .inl (kA 0, 60, .inl (pd))), ((a 6), .inl (kA 0, 5, .inl (g1)))] H) (_ : va_D A [((a 0), .inr (5, [.ref (a 1), .ref (a 2), .int (nI kt), .ref (a 3), .ref (a 4), .ref (a 5), .int (nI ln), .ref (a 6), .int (nI td)])), ((a 1), .inl (kA 0, 169, .inl (vI V))), ((a 2), .inl (kA 0, 1014, .inl (hs))), ((a 3), .inl (kA 0, 338, .inl (sl))), ((a 4), .inl (kA 2, 2, .inl (sv))), ((a 5), .inl (kA 0, 60, .inl (pd))), ((a 6), .inl (kA 0, 5, .inl (g1)))]) (_ : va_S A xs.heap H locs) (ls : Array Slot) (_ : lv_has ls 6 [(4, .int (nI l)), (3, .int (nI t)), (2, .int (nI b)), (0, .ref (a 0)), (1, .int (nI z1))]), W xp xl xe (headSpec wsX5_bestWaiver { frames := 6, cells := 0, slots := 0, locals := 146 }).room xs xm ([.ref (a 0), .int z] : List Value).toArray xbe xme xc H locs 0 0 (MQ xbe (xQi D A (fun r u => r = (opBest (V, ln, P, kt, HH, HB, LL) z).1 ∧ ModR kA a (opBest (V, ln, P, kt, HH, HB, LL) z).2 u)) ([.ref (a 0), .int z] : List Value).toArray xs 0 0 A) (F0 xm 20 ls []) := by
      intro fuel
      induction fuel with
      | zero => intro l b t g1 hmu; exact absurd hmu (Nat.not_lt_zero _)
      | succ fuel ih20 =>
        intro l b t g1 hmu hl5 ht3 hbt H locs hP hD hS ls hl
        refine lv_iload hx hb dX5_bestWaiver_20 (lv_at hl 0 rfl) ?_
        refine lv_iconst (v := nI 5) hx hb dX5_bestWaiver_22 (by decide) ?_
        refine xIcmpGe C (tgt := 69) (by omega) (by decide) dX5_bestWaiver_23 (by decide) (fun h_23 => ?_) (fun h_23 => ?_)
        · skip
          refine lv_iload_n hx hb dX5_bestWaiver_69 rfl (lv_at hl 2 rfl) ?_
          exact xRetI hx hb hret (v := nI b) (retS (S2 := (V, ln, P, kt, HH, HB, LL)) (by simp [opBest, h_7, t_z1, ← show l = 5 by omega, ← hbt]) ⟨hs, sl, sv, pd, g1, td, rfl, hH, hpd, hsv⟩) hP hD hS dX5_bestWaiver_70 hlocks
        · skip
          refine lv_aload_n hx hb dX5_bestWaiver_26 rfl (lv_at hl 3 rfl) ?_
          refine lv_bipush (v := (-6)) hx hb dX5_bestWaiver_27 (by decide) ?_
          refine lv_iload hx hb dX5_bestWaiver_29 (lv_at hl 0 rfl) ?_
          refine lv_iload_n hx hb dX5_bestWaiver_31 rfl (lv_at hl 4 rfl) ?_
          refine xWWi hS (va_runV (As := [.int (-6), .int (nI l), .int (nI z1)]) (rest := []) C (c_X5_triples xl D kA a V hs sl sv pd g1 kt ln td hV hW (-6) (nI l) z1 (by omega) A) (cwV 3 hts gX5_bestWaiver_X5_triples rfl rfl rfl (by decide +kernel) ⟨Nat.le_of_ble_eq_true rfl, Nat.le_of_ble_eq_true rfl⟩) (xPreVw (q0 := 0) hN hP hD (xAll hS hA) rfl rfl rfl) rfl rfl hl.1 rfl (lv_room (Nat.le_of_ble_eq_true rfl)) dX5_bestWaiver_32 ⟨Nat.le_of_ble_eq_true rfl, Nat.le_of_ble_eq_true rfl⟩) (fun r_32 u_32 H locs hq_32 hP hD hS => ?_)
          obtain ⟨rfl, g_32, rfl⟩ := hq_32
          have hP : va_P D vwCl [((a 0), .inr (5, [.ref (a 1), .ref (a 2), .int (nI kt), .ref (a 3), .ref (a 4), .ref (a 5), .int (nI ln), .ref (a 6), .int (nI td)])), ((a 1), .inl (kA 0, 169, .inl (vI V))), ((a 2), .inl (kA 0, 1014, .inl (hs))), ((a 3), .inl (kA 0, 338, .inl (sl))), ((a 4), .inl (kA 2, 2, .inl (sv))), ((a 5), .inl (kA 0, 60, .inl (pd))), ((a 6), .inl (kA 0, 5, .inl (g_32)))] H := hP
          have hD : va_D A [((a 0), .inr (5, [.ref (a 1), .ref (a 2), .int (nI kt), .ref (a 3), .ref (a 4), .ref (a 5), .int (nI ln), .ref (a 6), .int (nI td)])), ((a 1), .inl (kA 0, 169, .inl (vI V))), ((a 2), .inl (kA 0, 1014, .inl (hs))), ((a 3), .inl (kA 0, 338, .inl (sl))), ((a 4), .inl (kA 2, 2, .inl (sv))), ((a 5), .inl (kA 0, 60, .inl (pd))), ((a 6), .inl (kA 0, 5, .inl (g_32)))] := hD
          refine xTop (y := nI (trpT (V 0 + 1) (wavT (V 0) (TV V) l z1))) (congrArg nI (trpM_wav hW (by omega) (by omega) (by omega))) ?_
          refine lv_istore (lv' := [(5, .int (nI (trpT (V 0 + 1) (wavT (V 0) (TV V) l z1)))), (4, .int (nI l)), (3, .int (nI t)), (2, .int (nI b)), (0, .ref (a 0)), (1, .int (nI z1))]) hx hb dX5_bestWaiver_35 hl (by decide) rfl (fun ls hl => ?_)
          refine lv_iload hx hb dX5_bestWaiver_37 (lv_at hl 0 rfl) ?_
          refine lv_iload_n hx hb dX5_bestWaiver_39 rfl (lv_at hl 2 rfl) ?_
          refine xIcmpLt C (tgt := 48) (by have := trp_le (n := V 0 + 1) (T := wavT (V 0) (TV V) l z1); omega) (by omega) dX5_bestWaiver_40 (by decide) (fun h_40 => ?_) (fun h_40 => ?_)
          · skip
            refine lv_iload_n hx hb dX5_bestWaiver_48 rfl (lv_at hl 3 rfl) ?_
            refine lv_istore_n (lv' := [(2, .int (nI b)), (5, .int (nI (trpT (V 0 + 1) (wavT (V 0) (TV V) l z1)))), (4, .int (nI l)), (3, .int (nI t)), (0, .ref (a 0)), (1, .int (nI z1))]) hx hb dX5_bestWaiver_49 rfl hl (by decide) rfl (fun ls hl => ?_)
            refine lv_iload hx hb dX5_bestWaiver_50 (lv_at hl 1 rfl) ?_
            refine lv_iload_n hx hb dX5_bestWaiver_52 rfl (lv_at hl 3 rfl) ?_
            refine xIcmpLt C (tgt := 61) (by have := trp_le (n := V 0 + 1) (T := wavT (V 0) (TV V) l z1); omega) (by omega) dX5_bestWaiver_53 (by decide) (fun h_53 => ?_) (fun h_53 => ?_)
            · skip
              refine lv_iload_n hx hb dX5_bestWaiver_61 rfl (lv_at hl 3 rfl) ?_
              refine lv_istore_n (lv' := [(3, .int (nI t)), (2, .int (nI b)), (5, .int (nI (trpT (V 0 + 1) (wavT (V 0) (TV V) l z1)))), (4, .int (nI l)), (0, .ref (a 0)), (1, .int (nI z1))]) hx hb dX5_bestWaiver_62 rfl hl (by decide) rfl (fun ls hl => ?_)
              refine xIinc C (kx := 3) (d := 1) (lv' := [(4, .int (nI (l + 1))), (3, .int (nI t)), (2, .int (nI b)), (5, .int (nI (trpT (V 0 + 1) (wavT (V 0) (TV V) l z1)))), (0, .ref (a 0)), (1, .int (nI z1))]) dX5_bestWaiver_63 hl rfl (by decide) (by decide) rfl (fun ls hl => ?_)
              refine lv_goto (tgt := 20) hx hb dX5_bestWaiver_66 (by decide) ?_
              have hP : va_P D vwCl [((a 0), .inr (5, [.ref (a 1), .ref (a 2), .int (nI kt), .ref (a 3), .ref (a 4), .ref (a 5), .int (nI ln), .ref (a 6), .int (nI td)])), ((a 1), .inl (kA 0, 169, .inl (vI V))), ((a 2), .inl (kA 0, 1014, .inl (hs))), ((a 3), .inl (kA 0, 338, .inl (sl))), ((a 4), .inl (kA 2, 2, .inl (sv))), ((a 5), .inl (kA 0, 60, .inl (pd))), ((a 6), .inl (kA 0, 5, .inl (g_32)))] H := hP
              exact ih20 (l + 1) b t g_32 (by omega) (by omega) (by first | omega | exact trp_le) (by first | exact bw_t h_40 hbt | exact bw_f h_40 hbt) _ _ hP hD hS _ (lv_sub hl [0, 1, 2, 4, 5] rfl)
            · exact absurd h_53 (by omega)
          · skip
            refine lv_iload hx hb dX5_bestWaiver_43 (lv_at hl 1 rfl) ?_
            refine lv_goto (tgt := 49) hx hb dX5_bestWaiver_45 (by decide) ?_
            refine lv_istore_n (lv' := [(2, .int (nI l)), (5, .int (nI (trpT (V 0 + 1) (wavT (V 0) (TV V) l z1)))), (4, .int (nI l)), (3, .int (nI t)), (0, .ref (a 0)), (1, .int (nI z1))]) hx hb dX5_bestWaiver_49 rfl hl (by decide) rfl (fun ls hl => ?_)
            refine lv_iload hx hb dX5_bestWaiver_50 (lv_at hl 1 rfl) ?_
            refine lv_iload_n hx hb dX5_bestWaiver_52 rfl (lv_at hl 3 rfl) ?_
            refine xIcmpLt C (tgt := 61) (by have := trp_le (n := V 0 + 1) (T := wavT (V 0) (TV V) l z1); omega) (by omega) dX5_bestWaiver_53 (by decide) (fun h_53 => ?_) (fun h_53 => ?_)
            · exact absurd h_53 (by omega)
            · skip
              refine lv_iload hx hb dX5_bestWaiver_56 (lv_at hl 1 rfl) ?_
              refine lv_goto (tgt := 62) hx hb dX5_bestWaiver_58 (by decide) ?_
              refine lv_istore_n (lv' := [(3, .int (nI (trpT (V 0 + 1) (wavT (V 0) (TV V) l z1)))), (2, .int (nI l)), (5, .int (nI (trpT (V 0 + 1) (wavT (V 0) (TV V) l z1)))), (4, .int (nI l)), (0, .ref (a 0)), (1, .int (nI z1))]) hx hb dX5_bestWaiver_62 rfl hl (by decide) rfl (fun ls hl => ?_)
              refine xIinc C (kx := 3) (d := 1) (lv' := [(4, .int (nI (l + 1))), (3, .int (nI (trpT (V 0 + 1) (wavT (V 0) (TV V) l z1)))), (2, .int (nI l)), (5, .int (nI (trpT (V 0 + 1) (wavT (V 0) (TV V) l z1)))), (0, .ref (a 0)), (1, .int (nI z1))]) dX5_bestWaiver_63 hl rfl (by decide) (by decide) rfl (fun ls hl => ?_)
              refine lv_goto (tgt := 20) hx hb dX5_bestWaiver_66 (by decide) ?_
              have hP : va_P D vwCl [((a 0), .inr (5, [.ref (a 1), .ref (a 2), .int (nI kt), .ref (a 3), .ref (a 4), .ref (a 5), .int (nI ln), .ref (a 6), .int (nI td)])), ((a 1), .inl (kA 0, 169, .inl (vI V))), ((a 2), .inl (kA 0, 1014, .inl (hs))), ((a 3), .inl (kA 0, 338, .inl (sl))), ((a 4), .inl (kA 2, 2, .inl (sv))), ((a 5), .inl (kA 0, 60, .inl (pd))), ((a 6), .inl (kA 0, 5, .inl (g_32)))] H := hP
              exact ih20 (l + 1) l (trpT (V 0 + 1) (wavT (V 0) (TV V) l z1)) g_32 (by omega) (by omega) (by first | omega | exact trp_le) (by first | exact bw_t h_40 hbt | exact bw_f h_40 hbt) _ _ hP hD hS _ (lv_sub hl [0, 1, 2, 4, 5] rfl)
    exact L20 _ 0 0 0 sg (Nat.lt_succ_self _) (by omega) (by omega) rfl _ _ hP hD hS _ (lv_sub hl [0, 1, 2, 3, 4] rfl)
  · skip
    refine lv_bipush (v := (-2)) hx hb dX5_bestWaiver_10 (by decide) ?_
    exact xRetI hx hb hret (v := (-2)) (retS (S2 := (V, ln, P, kt, HH, HB, LL)) (by simp [opBest, h_7]) ⟨hs, sl, sv, pd, sg, td, rfl, hH, hpd, hsv⟩) hP hD hS dX5_bestWaiver_12 hlocks

set_option maxHeartbeats 8000000 in
set_option maxRecDepth 100000 in
theorem c_X5_wipe (xl : Launch) (D : va_G) (kA : Nat → ClassId) (a : Nat → Nat) (V : Nat → Nat) (hs sl sv pd sg : Nat → Int32) (kt ln td : Nat) (P : Nat → Nat) (HH : Nat → Nat → Nat) (HB : Nat → Bool) (LL : Nat → Nat → Nat) (hI : InvS (V, ln, P, kt, HH, HB, LL)) (hH : relH hs kt HH) (hpd : relP pd ln P) (hsv : relS sv sl HB LL) (A : Nat → Prop) : Met xl yX5_wipe wsX5_wipe { frames := 0, cells := 0, slots := 0, locals := 0 } (va_Pc [.ref (a 0)] (xPw D kA A [((a 0), .inr (5, [.ref (a 1), .ref (a 2), .int (nI kt), .ref (a 3), .ref (a 4), .ref (a 5), .int (nI ln), .ref (a 6), .int (nI td)])), ((a 1), .inl (kA 0, 169, .inl (vI V))), ((a 2), .inl (kA 0, 1014, .inl (hs))), ((a 3), .inl (kA 0, 338, .inl (sl))), ((a 4), .inl (kA 2, 2, .inl (sv))), ((a 5), .inl (kA 0, 60, .inl (pd))), ((a 6), .inl (kA 0, 5, .inl (sg)))])) (xQi D A (fun r u => r = (opWipe (V, ln, P, kt, HH, HB, LL) ).1 ∧ ModR kA a (opWipe (V, ln, P, kt, HH, HB, LL) ).2 u)) 0 0 A := by
  refine Met.ofW (cc := cX5_wipe) (maxL := 2) (ret := (some .int)) (by decide) rfl ?_
  intro xp xe xs xm args xbe xme xc s₁ B hml hv
  obtain ⟨rfl, hP, hN, hD, hA⟩ := hv
  have hret := B.returns
  have C : CallFix xp xm xc cX5_wipe 2 xs ([.ref (a 0)] : List Value).toArray wsX5_wipe RX5 := ⟨B.exec, B.bytes, hml, findClass_of_methodNamed B.named, atoms_spec (ws := wsX5_wipe) B.pre⟩
  have hlocks := B.notSynchronized
  obtain ⟨hx, hb, _, hown, hts⟩ := id C
  have hS : va_S A xs.heap xs.heap [] := va_S.rf
  have hl := lv_entry ([.ref (a 0)]) (n := 2) (Nat.le_of_ble_eq_true rfl)
  rw [lg_entry_eq]
  generalize (lg_sl ([.ref (a 0)]) ++ List.replicate (2 - (lg_sl ([.ref (a 0)])).length) Slot.unset).toArray = ls at hl ⊢
  have hl : lv_has ls 2 [(0, .ref (a 0))] := hl
  obtain ⟨⟨hV, hW, hM, hG⟩, hm, hwP, hk, hIH, hIL⟩ := hI
  refine lv_aload_n hx hb dX5_wipe_0 rfl (lv_at hl 0 rfl) ?_
  refine xGet C hN hP 0 (j := 6) rfl rfl iX5_wipe_X5 (by decide) kX5_wipe_118 rfl rfl dX5_wipe_1 ?_
  refine lv_istore_n (lv' := [(1, .int (nI ln)), (0, .ref (a 0))]) hx hb dX5_wipe_4 rfl hl (by decide) rfl (fun ls hl => ?_)
  refine lv_aload_n hx hb dX5_wipe_5 rfl (lv_at hl 1 rfl) ?_
  refine lv_iconst (v := nI 0) hx hb dX5_wipe_6 (by decide) ?_
  refine xPut C hN hP hD hS 0 (j := 6) (v := .int (nI 0)) rfl rfl iX5_wipe_X5 tyX5_ok nmX5 (by decide) kX5_wipe_118 rfl rfl rfl rfl (Nat.le_of_ble_eq_true rfl) dX5_wipe_7 (fun H locs hP hD hS => ?_)
  have hP : va_P D vwCl [((a 0), .inr (5, [.ref (a 1), .ref (a 2), .int (nI kt), .ref (a 3), .ref (a 4), .ref (a 5), .int (nI 0), .ref (a 6), .int (nI td)])), ((a 1), .inl (kA 0, 169, .inl (vI V))), ((a 2), .inl (kA 0, 1014, .inl (hs))), ((a 3), .inl (kA 0, 338, .inl (sl))), ((a 4), .inl (kA 2, 2, .inl (sv))), ((a 5), .inl (kA 0, 60, .inl (pd))), ((a 6), .inl (kA 0, 5, .inl (sg)))] H := hP
  have hD : va_D A [((a 0), .inr (5, [.ref (a 1), .ref (a 2), .int (nI kt), .ref (a 3), .ref (a 4), .ref (a 5), .int (nI 0), .ref (a 6), .int (nI td)])), ((a 1), .inl (kA 0, 169, .inl (vI V))), ((a 2), .inl (kA 0, 1014, .inl (hs))), ((a 3), .inl (kA 0, 338, .inl (sl))), ((a 4), .inl (kA 2, 2, .inl (sv))), ((a 5), .inl (kA 0, 60, .inl (pd))), ((a 6), .inl (kA 0, 5, .inl (sg)))] := hD
  refine lv_iload_n hx hb dX5_wipe_10 rfl (lv_at hl 0 rfl) ?_
  exact xRetI hx hb hret (v := nI ln) (retS (S2 := (V, 0, P, kt, HH, HB, LL)) (by simp [opWipe]) ⟨hs, sl, sv, pd, sg, td, rfl, hH, (fun j h => absurd h (Nat.not_lt_zero j)), hsv⟩) hP hD hS dX5_wipe_11 hlocks

set_option maxHeartbeats 8000000 in
set_option maxRecDepth 100000 in
theorem c_X5_fault (xl : Launch) (D : va_G) (kA : Nat → ClassId) (a : Nat → Nat) (V : Nat → Nat) (hs sl sv pd sg : Nat → Int32) (kt ln td : Nat) (P : Nat → Nat) (HH : Nat → Nat → Nat) (HB : Nat → Bool) (LL : Nat → Nat → Nat) (hI : InvS (V, ln, P, kt, HH, HB, LL)) (hH : relH hs kt HH) (hpd : relP pd ln P) (hsv : relS sv sl HB LL) (A : Nat → Prop) : Met xl yX5_fault wsX5_fault { frames := 3, cells := 0, slots := 0, locals := 67 } (va_Pc [.ref (a 0)] (xPw D kA A [((a 0), .inr (5, [.ref (a 1), .ref (a 2), .int (nI kt), .ref (a 3), .ref (a 4), .ref (a 5), .int (nI ln), .ref (a 6), .int (nI td)])), ((a 1), .inl (kA 0, 169, .inl (vI V))), ((a 2), .inl (kA 0, 1014, .inl (hs))), ((a 3), .inl (kA 0, 338, .inl (sl))), ((a 4), .inl (kA 2, 2, .inl (sv))), ((a 5), .inl (kA 0, 60, .inl (pd))), ((a 6), .inl (kA 0, 5, .inl (sg)))])) (xQi D A (fun r u => r = (opFault (V, ln, P, kt, HH, HB, LL) ).1 ∧ ModR kA a (opFault (V, ln, P, kt, HH, HB, LL) ).2 u)) 0 0 A := by
  refine Met.ofW (cc := cX5_fault) (maxL := 1) (ret := (some .int)) (by decide) rfl ?_
  intro xp xe xs xm args xbe xme xc s₁ B hml hv
  obtain ⟨rfl, hP, hN, hD, hA⟩ := hv
  have hret := B.returns
  have C : CallFix xp xm xc cX5_fault 1 xs ([.ref (a 0)] : List Value).toArray wsX5_fault RX5 := ⟨B.exec, B.bytes, hml, findClass_of_methodNamed B.named, atoms_spec (ws := wsX5_fault) B.pre⟩
  have hlocks := B.notSynchronized
  obtain ⟨hx, hb, _, hown, hts⟩ := id C
  have hS : va_S A xs.heap xs.heap [] := va_S.rf
  have hl := lv_entry ([.ref (a 0)]) (n := 1) (Nat.le_of_ble_eq_true rfl)
  rw [lg_entry_eq]
  generalize (lg_sl ([.ref (a 0)]) ++ List.replicate (1 - (lg_sl ([.ref (a 0)])).length) Slot.unset).toArray = ls at hl ⊢
  have hl : lv_has ls 1 [(0, .ref (a 0))] := hl
  obtain ⟨⟨hV, hW, hM, hG⟩, hm, hwP, hk, hIH, hIL⟩ := hI
  refine lv_aload_n hx hb dX5_fault_0 rfl (lv_at hl 0 rfl) ?_
  refine xWWi hS (va_runV (As := []) (rest := []) C (c_X5_wrong xl D kA a V hs sl sv pd sg kt ln td P hpd hm hwP A) (cwV 0 hts gX5_fault_X5_wrong rfl rfl rfl (by decide +kernel) ⟨Nat.le_of_ble_eq_true rfl, Nat.le_of_ble_eq_true rfl⟩) (xPreVw (q0 := 0) hN hP hD (xAll hS hA) rfl rfl rfl) rfl rfl hl.1 rfl (lv_room (Nat.le_of_ble_eq_true rfl)) dX5_fault_1 ⟨Nat.le_of_ble_eq_true rfl, Nat.le_of_ble_eq_true rfl⟩) (fun r_1 u_1 H locs hq_1 hP hD hS => ?_)
  obtain ⟨rfl, rfl⟩ := hq_1
  have hP : va_P D vwCl [((a 0), .inr (5, [.ref (a 1), .ref (a 2), .int (nI kt), .ref (a 3), .ref (a 4), .ref (a 5), .int (nI ln), .ref (a 6), .int (nI ((wrK ln P 61 0 0).2))])), ((a 1), .inl (kA 0, 169, .inl (vI V))), ((a 2), .inl (kA 0, 1014, .inl (hs))), ((a 3), .inl (kA 0, 338, .inl (sl))), ((a 4), .inl (kA 2, 2, .inl (sv))), ((a 5), .inl (kA 0, 60, .inl (pd))), ((a 6), .inl (kA 0, 5, .inl (sg)))] H := hP
  have hD : va_D A [((a 0), .inr (5, [.ref (a 1), .ref (a 2), .int (nI kt), .ref (a 3), .ref (a 4), .ref (a 5), .int (nI ln), .ref (a 6), .int (nI ((wrK ln P 61 0 0).2))])), ((a 1), .inl (kA 0, 169, .inl (vI V))), ((a 2), .inl (kA 0, 1014, .inl (hs))), ((a 3), .inl (kA 0, 338, .inl (sl))), ((a 4), .inl (kA 2, 2, .inl (sv))), ((a 5), .inl (kA 0, 60, .inl (pd))), ((a 6), .inl (kA 0, 5, .inl (sg)))] := hD
  exact xRetI hx hb hret (v := (wrK ln P 61 0 0).1) (retS (S2 := (V, ln, P, kt, HH, HB, LL)) (by simp [opFault]) ⟨hs, sl, sv, pd, sg, (wrK ln P 61 0 0).2, rfl, hH, hpd, hsv⟩) hP hD hS dX5_fault_4 hlocks
