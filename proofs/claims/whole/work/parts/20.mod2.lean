theorem best_off {h : Nat → Bool} {T : Nat → Nat → Nat} {lo hi : Nat} {x : Int32} (hb : BestI h T lo hi x) (hn : ∀ i, i < hi → h i = false) : BestI h T 0 hi x := by
  rcases hb with ⟨e, _⟩ | ⟨j, _, h1, _, h2, _⟩
  · exact Or.inl ⟨e, fun i _ hi => hn i hi⟩
  · rw [hn j h1] at h2; cases h2
theorem hit_none {n : Nat} {T : Nat → Nat → Nat} {c d rk : Nat} (hrk : rk ≤ 9) (h : lstT n T c d ≤ rk) : ∀ i, i < n → hitT n T c d rk i = false := by
  intro i hi
  rw [lst_le hrk] at h
  cases e : hitT n T c d rk i
  · rfl
  · simp only [hitT, Bool.and_eq_true, decide_eq_true_eq, beq_iff_eq] at e
    have := h.2 i hi e.1.1 e.2; omega
theorem pm_10 {n : Nat} {T : Nat → Nat → Nat} {c d : Nat} (hW : WfT n T) (hn : n < 2 ^ 31) (h : lstT n T c d ≠ 10) : pmM n T c d (-6) = true := by
  have e : permT n T c d = true := by
    cases e : permT n T c d
    · exact absurd ((lst_10 hW).mpr e) h
    · rfl
  obtain ⟨j, h1, h2, h3⟩ := permT_iff.mp e
  exact pmM_iff.mpr ⟨j, h1, nI_ne6 (by omega), h2, h3⟩
theorem rsn_10 {n : Nat} {T : Nat → Nat → Nat} {c d rk : Nat} (hW : WfT n T) (h : lstT n T c d = 10) : rsnT n T c d rk = nI 100 := by
  unfold rsnT; rw [if_neg (by rw [(lst_10 hW).mp h]; decide)]
def smP (V : Nat → Nat) (w i : Nat) : Nat := if w = 5 then cntN (V 0) (fun j => oddT (TV V) i j) else if w = 4 then (if idB V i = true then 1 else 0) else if TV V i 1 = w - 1 then 1 else 0
def smF (V : Nat → Nat) (w n : Nat) : Nat := sumN n (smP V w)
theorem sm_0 (V : Nat → Nat) (w : Nat) : 0 = smF V w 0 := rfl
theorem sm_5 {V : Nat → Nat} {w i : Nat} (h : w = 5) : smF V w i + cntN (V 0) (fun j => oddT (TV V) i j) = smF V w (i + 1) := by
  unfold smF; rw [sumN_succ]; conv => rhs; rw [show smP V w i = cntN (V 0) (fun j => oddT (TV V) i j) by unfold smP; rw [if_pos h]]
theorem sm_4 {V : Nat → Nat} {w i : Nat} {b : Bool} (h5 : w ≠ 5) (h4 : w = 4) (h : idM (V 0) (TV V) i = b) : smF V w i + (if b = true then 1 else 0) = smF V w (i + 1) := by
  unfold smF; rw [sumN_succ]; conv => rhs; rw [show smP V w i = (if b = true then 1 else 0) by unfold smP idB; rw [if_neg h5, if_pos h4, h]]
theorem sm_1t {V : Nat → Nat} {w i : Nat} (h5 : w ≠ 5) (h4 : w ≠ 4) (h : TV V i 1 = w - 1) : smF V w i + 1 = smF V w (i + 1) := by
  unfold smF; rw [sumN_succ]; conv => rhs; rw [show smP V w i = 1 by unfold smP; rw [if_neg h5, if_neg h4, if_pos h]]
theorem sm_1f {V : Nat → Nat} {w i : Nat} (h5 : w ≠ 5) (h4 : w ≠ 4) (h : TV V i 1 ≠ w - 1) : smF V w i + 0 = smF V w (i + 1) := by
  unfold smF; rw [sumN_succ]; conv => rhs; rw [show smP V w i = 0 by unfold smP; rw [if_neg h5, if_neg h4, if_neg h]]
def mdP (V : Nat → Nat) (i : Nat) : Nat → Bool := fun d => decide (lstT (V 0) (TV V) (V (129 + 4 * i)) d ≤ V (129 + 4 * i + 1))
theorem md_bits : ∀ d, d < 6 → ∀ m, m < 64 → nI m ||| (nI 1 <<< (nI d &&& 31)) = nI (m ||| 2 ^ d) := by decide +kernel
theorem md_t {V : Nat → Nat} {i d : Nat} (hd : d < 6) (h : lstT (V 0) (TV V) (V (129 + 4 * i)) d ≤ V (129 + 4 * i + 1)) : nI (maskN d (mdP V i)) ||| (nI 1 <<< (nI d &&& 31)) = nI (maskN (d + 1) (mdP V i)) := by
  have h1 : maskN d (mdP V i) < 64 := Nat.lt_of_lt_of_le (maskN_lt _ _) (show 2 ^ d ≤ 2 ^ 6 from Nat.pow_le_pow_right (by decide) (by omega))
  rw [md_bits d hd _ h1, maskN, if_pos (by unfold mdP; exact decide_eq_true h)]
theorem or0 (x : Int32) : x ||| nI 0 = x := by
  rw [nI_0]; apply Int32.toBitVec_inj.mp; simp
theorem md_f {V : Nat → Nat} {i d : Nat} (h : V (129 + 4 * i + 1) < lstT (V 0) (TV V) (V (129 + 4 * i)) d) : nI (maskN d (mdP V i)) ||| nI 0 = nI (maskN (d + 1) (mdP V i)) := by
  rw [or0, maskN, if_neg (by unfold mdP; rw [decide_eq_false (by omega)]; decide), Nat.or_zero]
set_option maxHeartbeats 8000000 in
set_option maxRecDepth 100000 in
theorem c_X5_oddsOf (xl : Launch) (D : va_G) (kA : Nat → ClassId) (a : Nat → Nat) (V : Nat → Nat) (hs sl sv pd sg : Nat → Int32) (kt ln td : Nat) (hV : V 0 ≤ 24) (hW : WfT (V 0) (TV V)) (i : Nat) (hi : i < V 0) : Met xl yX5_oddsOf wsX5_oddsOf { frames := 3, cells := 0, slots := 0, locals := 67 } (va_Pc [.ref (a 0), .int (nI i)] (xPr D kA [((a 0), .inr (5, [.ref (a 1), .ref (a 2), .int (nI kt), .ref (a 3), .ref (a 4), .ref (a 5), .int (nI ln), .ref (a 6), .int (nI td)])), ((a 1), .inl (kA 0, 169, .inl (vI V))), ((a 2), .inl (kA 0, 1014, .inl (hs))), ((a 3), .inl (kA 0, 338, .inl (sl))), ((a 4), .inl (kA 2, 2, .inl (sv))), ((a 5), .inl (kA 0, 60, .inl (pd))), ((a 6), .inl (kA 0, 5, .inl (sg)))])) (vp_Si (fun rr => rr = nI (cntN (V 0) (fun j => oddT (TV V) i j)))) 0 0 (fun _ => False) := by
  refine Met.ofW (cc := cX5_oddsOf) (maxL := 4) (ret := (some .int)) (by decide) rfl ?_
  intro xp xe xs xm args xbe xme xc s₁ B hml hv
  obtain ⟨rfl, hP, hN⟩ := hv
  have hret := B.returns
  have C : CallFix xp xm xc cX5_oddsOf 4 xs ([.ref (a 0), .int (nI i)] : List Value).toArray wsX5_oddsOf RX5 := ⟨B.exec, B.bytes, hml, findClass_of_methodNamed B.named, atoms_spec (ws := wsX5_oddsOf) B.pre⟩
  have hlocks := B.notSynchronized
  obtain ⟨hx, hb, _, hown, hts⟩ := id C
  have hl := lv_entry ([.ref (a 0), .int (nI i)]) (n := 4) (Nat.le_of_ble_eq_true rfl)
  rw [lg_entry_eq]
  generalize (lg_sl ([.ref (a 0), .int (nI i)]) ++ List.replicate (4 - (lg_sl ([.ref (a 0), .int (nI i)])).length) Slot.unset).toArray = ls at hl ⊢
  have hl : lv_has ls 4 [(0, .ref (a 0)), (1, .int (nI i))] := hl
  refine lv_iconst (v := nI 0) hx hb dX5_oddsOf_0 (by decide) ?_
  refine lv_istore_n (lv' := [(2, .int (nI 0)), (0, .ref (a 0)), (1, .int (nI i))]) hx hb dX5_oddsOf_1 rfl hl (by decide) rfl (fun ls hl => ?_)
  refine lv_iconst (v := nI 0) hx hb dX5_oddsOf_2 (by decide) ?_
  refine lv_istore_n (lv' := [(3, .int (nI 0)), (2, .int (nI 0)), (0, .ref (a 0)), (1, .int (nI i))]) hx hb dX5_oddsOf_3 rfl hl (by decide) rfl (fun ls hl => ?_)
  have L4 : ∀ (fuel : Nat), ∀ (j : Nat) (v : Nat) (hmu : V 0 - j < fuel) (hj : j ≤ V 0) (hv : v = cntN j (fun j => oddT (TV V) i j)) (ls : Array Slot) (_ : lv_has ls 4 [(3, .int (nI j)), (2, .int (nI v)), (0, .ref (a 0)), (1, .int (nI i))]), W xp xl xe (headSpec wsX5_oddsOf { frames := 3, cells := 0, slots := 0, locals := 67 }).room xs xm ([.ref (a 0), .int (nI i)] : List Value).toArray xbe xme xc xs.heap [] 0 0 (MQ xbe (vp_Si (fun rr => rr = nI (cntN (V 0) (fun j => oddT (TV V) i j)))) ([.ref (a 0), .int (nI i)] : List Value).toArray xs 0 0 (fun _ => False)) (F0 xm 4 ls []) := by
    intro fuel
    induction fuel with
    | zero => intro j v hmu; exact absurd hmu (Nat.not_lt_zero _)
    | succ fuel ih4 =>
      intro j v hmu hj hv ls hl
      refine lv_iload_n hx hb dX5_oddsOf_4 rfl (lv_at hl 0 rfl) ?_
      refine lv_aload_n hx hb dX5_oddsOf_5 rfl (lv_at hl 2 rfl) ?_
      refine xGet C hN hP 0 (j := 0) rfl rfl iX5_oddsOf_X5 (by decide) kX5_oddsOf_7 rfl rfl dX5_oddsOf_6 ?_
      refine lv_iconst (v := nI 0) hx hb dX5_oddsOf_9 (by decide) ?_
      refine xIald C hN hP 1 (j := 0) (v := nI (V 0)) rfl (by omega) (by decide) (rfl) dX5_oddsOf_10 ?_
      refine xIcmpGe C (tgt := 37) (by omega) (by omega) dX5_oddsOf_11 (by decide) (fun h_11 => ?_) (fun h_11 => ?_)
      · skip
        refine lv_iload_n hx hb dX5_oddsOf_37 rfl (lv_at hl 1 rfl) ?_
        exact xRoI hx hb hret (v := nI v) (by rw [hv, show j = V 0 by omega]) dX5_oddsOf_38 hlocks
      · skip
        refine lv_iload_n hx hb dX5_oddsOf_14 rfl (lv_at hl 1 rfl) ?_
        refine lv_aload_n hx hb dX5_oddsOf_15 rfl (lv_at hl 2 rfl) ?_
        refine lv_iload_n hx hb dX5_oddsOf_16 rfl (lv_at hl 3 rfl) ?_
        refine lv_iload_n hx hb dX5_oddsOf_17 rfl (lv_at hl 0 rfl) ?_
        refine xVro C hN (As := [.int (nI i), .int (nI j)]) (rest := [.int (nI v)]) (q0 := 0) (c_X5_areAtOdds xl D kA a V hs sl sv pd sg kt ln td hV hW i j hi (by omega)) (cwV 2 hts gX5_oddsOf_X5_areAtOdds rfl rfl rfl (by decide +kernel) ⟨Nat.le_of_ble_eq_true rfl, Nat.le_of_ble_eq_true rfl⟩) hP rfl rfl rfl rfl hl.1 rfl (Nat.le_of_ble_eq_true rfl) dX5_oddsOf_18 ⟨Nat.le_of_ble_eq_true rfl, Nat.le_of_ble_eq_true rfl⟩ ?_
        refine xIfEqB C (tgt := 28) dX5_oddsOf_21 (by decide) (fun h_21 => ?_) (fun h_21 => ?_)
        · skip
          refine lv_iconst (v := nI 0) hx hb dX5_oddsOf_28 (by decide) ?_
          refine xIadd C dX5_oddsOf_29 ?_
          refine lv_istore_n (lv' := [(2, .int (nI (v + 0))), (3, .int (nI j)), (0, .ref (a 0)), (1, .int (nI i))]) hx hb dX5_oddsOf_30 rfl hl (by decide) rfl (fun ls hl => ?_)
          refine xIinc C (kx := 1) (d := 1) (lv' := [(3, .int (nI (j + 1))), (2, .int (nI (v + 0))), (0, .ref (a 0)), (1, .int (nI i))]) dX5_oddsOf_31 hl rfl (by decide) (by decide) rfl (fun ls hl => ?_)
          refine lv_goto (tgt := 4) hx hb dX5_oddsOf_34 (by decide) ?_
          exact ih4 (j + 1) (v + 0) (by omega) (by omega) (by rw [cntN_succ, hv, h_21]; rfl) _ (lv_sub hl [0, 1, 2, 3] rfl)
        · skip
          refine lv_iconst (v := nI 1) hx hb dX5_oddsOf_24 (by decide) ?_
          refine lv_goto (tgt := 29) hx hb dX5_oddsOf_25 (by decide) ?_
          refine xIadd C dX5_oddsOf_29 ?_
          refine lv_istore_n (lv' := [(2, .int (nI (v + 1))), (3, .int (nI j)), (0, .ref (a 0)), (1, .int (nI i))]) hx hb dX5_oddsOf_30 rfl hl (by decide) rfl (fun ls hl => ?_)
          refine xIinc C (kx := 1) (d := 1) (lv' := [(3, .int (nI (j + 1))), (2, .int (nI (v + 1))), (0, .ref (a 0)), (1, .int (nI i))]) dX5_oddsOf_31 hl rfl (by decide) (by decide) rfl (fun ls hl => ?_)
          refine lv_goto (tgt := 4) hx hb dX5_oddsOf_34 (by decide) ?_
          exact ih4 (j + 1) (v + 1) (by omega) (by omega) (by rw [cntN_succ, hv, h_21]; rfl) _ (lv_sub hl [0, 1, 2, 3] rfl)
  exact L4 _ 0 0 (Nat.lt_succ_self _) (by omega) rfl _ (lv_sub hl [0, 1, 2, 3] rfl)

set_option maxHeartbeats 8000000 in
set_option maxRecDepth 100000 in
theorem c_X5_reason (xl : Launch) (D : va_G) (kA : Nat → ClassId) (a : Nat → Nat) (V : Nat → Nat) (hs sl sv pd sg : Nat → Int32) (kt ln td : Nat) (hV : V 0 ≤ 24) (hW : WfT (V 0) (TV V)) (c d rk : Nat) (hc : c < 5) (hd : d < 6) (hrk : rk ≤ 9) (A : Nat → Prop) : Met xl yX5_reason wsX5_reason { frames := 6, cells := 0, slots := 0, locals := 143 } (va_Pc [.ref (a 0), .int (nI c), .int (nI d), .int (nI rk)] (xPw D kA A [((a 0), .inr (5, [.ref (a 1), .ref (a 2), .int (nI kt), .ref (a 3), .ref (a 4), .ref (a 5), .int (nI ln), .ref (a 6), .int (nI td)])), ((a 1), .inl (kA 0, 169, .inl (vI V))), ((a 2), .inl (kA 0, 1014, .inl (hs))), ((a 3), .inl (kA 0, 338, .inl (sl))), ((a 4), .inl (kA 2, 2, .inl (sv))), ((a 5), .inl (kA 0, 60, .inl (pd))), ((a 6), .inl (kA 0, 5, .inl (sg)))])) (xQi D A (fun r u => r = rsnT (V 0) (TV V) c d rk ∧ ∃ g : Nat → Int32, u = modW kA a V hs sl sv pd g kt ln td)) 0 0 A := by
  refine Met.ofW (cc := cX5_reason) (maxL := 8) (ret := (some .int)) (by decide) rfl ?_
  intro xp xe xs xm args xbe xme xc s₁ B hml hv
  obtain ⟨rfl, hP, hN, hD, hA⟩ := hv
  have hret := B.returns
  have C : CallFix xp xm xc cX5_reason 8 xs ([.ref (a 0), .int (nI c), .int (nI d), .int (nI rk)] : List Value).toArray wsX5_reason RX5 := ⟨B.exec, B.bytes, hml, findClass_of_methodNamed B.named, atoms_spec (ws := wsX5_reason) B.pre⟩
  have hlocks := B.notSynchronized
  obtain ⟨hx, hb, _, hown, hts⟩ := id C
  have hS : va_S A xs.heap xs.heap [] := va_S.rf
  have hl := lv_entry ([.ref (a 0), .int (nI c), .int (nI d), .int (nI rk)]) (n := 8) (Nat.le_of_ble_eq_true rfl)
  rw [lg_entry_eq]
  generalize (lg_sl ([.ref (a 0), .int (nI c), .int (nI d), .int (nI rk)]) ++ List.replicate (8 - (lg_sl ([.ref (a 0), .int (nI c), .int (nI d), .int (nI rk)])).length) Slot.unset).toArray = ls at hl ⊢
  have hl : lv_has ls 8 [(0, .ref (a 0)), (1, .int (nI c)), (2, .int (nI d)), (3, .int (nI rk))] := hl
  refine lv_aload_n hx hb dX5_reason_0 rfl (lv_at hl 0 rfl) ?_
  refine lv_iload_n hx hb dX5_reason_1 rfl (lv_at hl 1 rfl) ?_
  refine lv_iload_n hx hb dX5_reason_2 rfl (lv_at hl 2 rfl) ?_
  refine xWWi hS (va_runV (As := [.int (nI c), .int (nI d)]) (rest := []) C (c_X5_leastNow xl D kA a V hs sl sv pd sg kt ln td hV hW c d hc hd A) (cwV 2 hts gX5_reason_X5_leastNow rfl rfl rfl (by decide +kernel) ⟨Nat.le_of_ble_eq_true rfl, Nat.le_of_ble_eq_true rfl⟩) (xPreVw (q0 := 0) hN hP hD (xAll hS hA) rfl rfl rfl) rfl rfl hl.1 rfl (lv_room (Nat.le_of_ble_eq_true rfl)) dX5_reason_3 ⟨Nat.le_of_ble_eq_true rfl, Nat.le_of_ble_eq_true rfl⟩) (fun r_3 u_3 H locs hq_3 hP hD hS => ?_)
  obtain ⟨rfl, g_3, rfl, hg_3⟩ := hq_3
  have hP : va_P D vwCl [((a 0), .inr (5, [.ref (a 1), .ref (a 2), .int (nI kt), .ref (a 3), .ref (a 4), .ref (a 5), .int (nI ln), .ref (a 6), .int (nI td)])), ((a 1), .inl (kA 0, 169, .inl (vI V))), ((a 2), .inl (kA 0, 1014, .inl (hs))), ((a 3), .inl (kA 0, 338, .inl (sl))), ((a 4), .inl (kA 2, 2, .inl (sv))), ((a 5), .inl (kA 0, 60, .inl (pd))), ((a 6), .inl (kA 0, 5, .inl (g_3)))] H := hP
  have hD : va_D A [((a 0), .inr (5, [.ref (a 1), .ref (a 2), .int (nI kt), .ref (a 3), .ref (a 4), .ref (a 5), .int (nI ln), .ref (a 6), .int (nI td)])), ((a 1), .inl (kA 0, 169, .inl (vI V))), ((a 2), .inl (kA 0, 1014, .inl (hs))), ((a 3), .inl (kA 0, 338, .inl (sl))), ((a 4), .inl (kA 2, 2, .inl (sv))), ((a 5), .inl (kA 0, 60, .inl (pd))), ((a 6), .inl (kA 0, 5, .inl (g_3)))] := hD
  refine lv_istore (lv' := [(4, .int (nI (lstM (V 0) (TV V) c d (-6) (-6) 0))), (0, .ref (a 0)), (1, .int (nI c)), (2, .int (nI d)), (3, .int (nI rk))]) hx hb dX5_reason_6 hl (by decide) rfl (fun ls hl => ?_)
  refine lv_iload hx hb dX5_reason_8 (lv_at hl 0 rfl) ?_
  refine lv_bipush (v := nI 10) hx hb dX5_reason_10 (by decide) ?_
  refine xIcmpNe C (tgt := 18) (by have := lstM_le (c := c) (d := d) (bu := -6) (ly := -6) (se := 0) hW; omega) (by decide) dX5_reason_12 (by decide) (fun h_12 => ?_) (fun h_12 => ?_)
  · skip
    rw [lstM_now hW (by omega)] at h_12
    have hpm : pmM (V 0) (TV V) c d (-6) = true := pm_10 hW (by omega) h_12
    refine lv_bipush (v := (-6)) hx hb dX5_reason_18 (by decide) ?_
    refine lv_istore (lv' := [(5, .int (-6)), (4, .int (nI (lstM (V 0) (TV V) c d (-6) (-6) 0))), (0, .ref (a 0)), (1, .int (nI c)), (2, .int (nI d)), (3, .int (nI rk))]) hx hb dX5_reason_20 hl (by decide) rfl (fun ls hl => ?_)
    refine lv_aload_n hx hb dX5_reason_22 rfl (lv_at hl 2 rfl) ?_
    refine xGet C hN hP 0 (j := 0) rfl rfl iX5_reason_X5 (by decide) kX5_reason_7 rfl rfl dX5_reason_23 ?_
    refine lv_iconst (v := nI 0) hx hb dX5_reason_26 (by decide) ?_
    refine xIald C hN hP 1 (j := 0) (v := nI (V 0)) rfl (by omega) (by decide) (rfl) dX5_reason_27 ?_
    refine lv_iconst (v := nI 1) hx hb dX5_reason_28 (by decide) ?_
    refine lv_isub hx hb dX5_reason_29 ?_
    refine lv_istore (lv' := [(6, .int ((nI (V 0)) - (nI 1))), (5, .int (-6)), (4, .int (nI (lstM (V 0) (TV V) c d (-6) (-6) 0))), (0, .ref (a 0)), (1, .int (nI c)), (2, .int (nI d)), (3, .int (nI rk))]) hx hb dX5_reason_30 hl (by decide) rfl (fun ls hl => ?_)
    have L32 : ∀ (fuel : Nat), ∀ (k : Nat) (x : Int32) (hmu : k < fuel) (hk : k ≤ V 0) (hbb : BestI (hitT (V 0) (TV V) c d rk) (TV V) k (V 0) x) (ls : Array Slot) (_ : lv_has ls 8 [(6, .int (nI k - nI 1)), (5, .int x), (4, .int (nI (lstM (V 0) (TV V) c d (-6) (-6) 0))), (0, .ref (a 0)), (1, .int (nI c)), (2, .int (nI d)), (3, .int (nI rk))]), W xp xl xe (headSpec wsX5_reason { frames := 6, cells := 0, slots := 0, locals := 143 }).room xs xm ([.ref (a 0), .int (nI c), .int (nI d), .int (nI rk)] : List Value).toArray xbe xme xc H locs 0 0 (MQ xbe (xQi D A (fun r u => r = rsnT (V 0) (TV V) c d rk ∧ ∃ g : Nat → Int32, u = modW kA a V hs sl sv pd g kt ln td)) ([.ref (a 0), .int (nI c), .int (nI d), .int (nI rk)] : List Value).toArray xs 0 0 A) (F0 xm 32 ls []) := by
      intro fuel
      induction fuel with
      | zero => intro k x hmu; exact absurd hmu (Nat.not_lt_zero _)
      | succ fuel ih32 =>
        intro k x hmu hk hbb ls hl
        refine lv_iload hx hb dX5_reason_32 (lv_at hl 0 rfl) ?_
        refine lv_if_lt (tgt := 149) hx hb dX5_reason_34 (by decide) (fun h_34 => ?_) (fun h_34 => ?_)
        · skip
          have hk0 := neg1_t h_34 (by omega)
          refine lv_iload hx hb dX5_reason_149 (lv_at hl 1 rfl) ?_
          exact xRetI hx hb hret (v := x) (⟨by first | exact rsn_best hW h_12 (by rw [hk0] at hbb; exact hbb) | exact rsn_best hW h_12 (best_off hbb (hit_none hrk (by rw [← lstM_now hW (by omega)]; exact h_40))), g_3, rfl⟩) hP hD hS dX5_reason_151 hlocks
        · skip
          have hk1 := neg1_f h_34
          rw [pk_sub hk1] at hl
          refine lv_iload_n hx hb dX5_reason_37 rfl (lv_at hl 6 rfl) ?_
          refine lv_iload hx hb dX5_reason_38 (lv_at hl 2 rfl) ?_
          refine xIcmpGe C (tgt := 149) (by omega) (by have := lstM_le (c := c) (d := d) (bu := -6) (ly := -6) (se := 0) hW; omega) dX5_reason_40 (by decide) (fun h_40 => ?_) (fun h_40 => ?_)
          · skip
            refine lv_iload hx hb dX5_reason_149 (lv_at hl 1 rfl) ?_
            exact xRetI hx hb hret (v := x) (⟨by first | exact rsn_best hW h_12 (by rw [hk0] at hbb; exact hbb) | exact rsn_best hW h_12 (best_off hbb (hit_none hrk (by rw [← lstM_now hW (by omega)]; exact h_40))), g_3, rfl⟩) hP hD hS dX5_reason_151 hlocks
          · skip
            refine lv_aload_n hx hb dX5_reason_43 rfl (lv_at hl 3 rfl) ?_
            refine lv_iload hx hb dX5_reason_44 (lv_at hl 0 rfl) ?_
            refine lv_iconst (v := nI 1) hx hb dX5_reason_46 (by decide) ?_
            refine xVro C hN (As := [.int (nI (k - 1)), .int (nI 1)]) (rest := []) (q0 := 0) (c_X5_of xl D kA a V hs sl sv pd g_3 kt ln td (k - 1) 1 (by omega) (by omega)) (cwV 2 hts gX5_reason_X5_of rfl rfl rfl (by decide +kernel) ⟨Nat.le_of_ble_eq_true rfl, Nat.le_of_ble_eq_true rfl⟩) hP rfl rfl rfl rfl hl.1 rfl (Nat.le_of_ble_eq_true rfl) dX5_reason_47 ⟨Nat.le_of_ble_eq_true rfl, Nat.le_of_ble_eq_true rfl⟩ ?_
            refine lv_iconst (v := nI 1) hx hb dX5_reason_50 (by decide) ?_
            refine xIcmpNe C (tgt := 102) (by have := hW (k - 1) (by omega); omega) (by decide) dX5_reason_51 (by decide) (fun h_51 => ?_) (fun h_51 => ?_)
            · skip
              refine lv_iconst (v := nI 0) hx hb dX5_reason_102 (by decide) ?_
              refine lv_istore (lv' := [(7, .int (nI 0)), (6, .int (nI (k - 1))), (5, .int x), (4, .int (nI (lstM (V 0) (TV V) c d (-6) (-6) 0))), (0, .ref (a 0)), (1, .int (nI c)), (2, .int (nI d)), (3, .int (nI rk))]) hx hb dX5_reason_103 hl (by decide) rfl (fun ls hl => ?_)
              refine lv_iload hx hb dX5_reason_105 (lv_at hl 0 rfl) ?_
              refine xIfEq C (tgt := 139) (by omega) dX5_reason_107 (by decide) (fun h_107 => ?_) (fun h_107 => ?_)
              · skip
                refine lv_iload hx hb dX5_reason_139 (lv_at hl 2 rfl) ?_
                refine lv_istore (lv' := [(5, .int x), (7, .int (nI 0)), (6, .int (nI (k - 1))), (4, .int (nI (lstM (V 0) (TV V) c d (-6) (-6) 0))), (0, .ref (a 0)), (1, .int (nI c)), (2, .int (nI d)), (3, .int (nI rk))]) hx hb dX5_reason_141 hl (by decide) rfl (fun ls hl => ?_)
                refine lv_iinc (v := nI (k - 1) - nI 1) (lv' := [(6, .int (nI (k - 1) - nI 1)), (5, .int x), (7, .int (nI 0)), (4, .int (nI (lstM (V 0) (TV V) c d (-6) (-6) 0))), (0, .ref (a 0)), (1, .int (nI c)), (2, .int (nI d)), (3, .int (nI rk))]) hx hb dX5_reason_143 hl (k := 2) rfl (by rw [sub_1]) (by decide) rfl (fun ls hl => ?_)
                refine lv_goto (tgt := 32) hx hb dX5_reason_146 (by decide) ?_
                exact ih32 (k - 1) x (by omega) (by omega) (by first | exact best_new (lo := k) (by omega) (by omega) (by rw [h_114] at hbb; exact hbb) (by omega) ((hit_iff hW (by omega) (by omega)).mpr ⟨h_51, h_62, h_84, h_95⟩) | exact best_near (by omega) (by omega) hbb (by omega) (by omega) ((hit_iff hW (by omega) (by omega)).mpr ⟨h_51, h_62, h_84, h_95⟩) h_131 | exact best_far (by omega) hbb (by omega) (by omega) h_131 | exact best_keep (by omega) hbb (hit_f hW (by omega) (by omega) (Or.inl h_51)) | exact best_keep (by omega) hbb (hit_f hW (by omega) (by omega) (Or.inr (Or.inl h_62))) | exact best_keep (by omega) hbb (hit_f hW (by omega) (by omega) (Or.inr (Or.inr (Or.inl h_84)))) | exact best_keep (by omega) hbb (hit_f hW (by omega) (by omega) (Or.inr (Or.inr (Or.inr h_95))))) _ (lv_sub hl [0, 1, 3, 4, 5, 6, 7] rfl)
              · exact absurd h_107 (by decide)
            · skip
              refine lv_aload_n hx hb dX5_reason_54 rfl (lv_at hl 3 rfl) ?_
              refine lv_iload hx hb dX5_reason_55 (lv_at hl 0 rfl) ?_
              refine lv_iload_n hx hb dX5_reason_57 rfl (lv_at hl 4 rfl) ?_
              refine lv_iload_n hx hb dX5_reason_58 rfl (lv_at hl 5 rfl) ?_
              refine xVro C hN (As := [.int (nI (k - 1)), .int (nI c), .int (nI d)]) (rest := []) (q0 := 0) (c_X5_fits xl D kA a V hs sl sv pd g_3 kt ln td hV hW (k - 1) c d (by omega) hc hd) (cwV 3 hts gX5_reason_X5_fits rfl rfl rfl (by decide +kernel) ⟨Nat.le_of_ble_eq_true rfl, Nat.le_of_ble_eq_true rfl⟩) hP rfl rfl rfl rfl hl.1 rfl (Nat.le_of_ble_eq_true rfl) dX5_reason_59 ⟨Nat.le_of_ble_eq_true rfl, Nat.le_of_ble_eq_true rfl⟩ ?_
              refine xIfEqB C (tgt := 102) dX5_reason_62 (by decide) (fun h_62 => ?_) (fun h_62 => ?_)
              · skip
                refine lv_iconst (v := nI 0) hx hb dX5_reason_102 (by decide) ?_
                refine lv_istore (lv' := [(7, .int (nI 0)), (6, .int (nI (k - 1))), (5, .int x), (4, .int (nI (lstM (V 0) (TV V) c d (-6) (-6) 0))), (0, .ref (a 0)), (1, .int (nI c)), (2, .int (nI d)), (3, .int (nI rk))]) hx hb dX5_reason_103 hl (by decide) rfl (fun ls hl => ?_)
                refine lv_iload hx hb dX5_reason_105 (lv_at hl 0 rfl) ?_
                refine xIfEq C (tgt := 139) (by omega) dX5_reason_107 (by decide) (fun h_107 => ?_) (fun h_107 => ?_)
                · skip
                  refine lv_iload hx hb dX5_reason_139 (lv_at hl 2 rfl) ?_
                  refine lv_istore (lv' := [(5, .int x), (7, .int (nI 0)), (6, .int (nI (k - 1))), (4, .int (nI (lstM (V 0) (TV V) c d (-6) (-6) 0))), (0, .ref (a 0)), (1, .int (nI c)), (2, .int (nI d)), (3, .int (nI rk))]) hx hb dX5_reason_141 hl (by decide) rfl (fun ls hl => ?_)
                  refine lv_iinc (v := nI (k - 1) - nI 1) (lv' := [(6, .int (nI (k - 1) - nI 1)), (5, .int x), (7, .int (nI 0)), (4, .int (nI (lstM (V 0) (TV V) c d (-6) (-6) 0))), (0, .ref (a 0)), (1, .int (nI c)), (2, .int (nI d)), (3, .int (nI rk))]) hx hb dX5_reason_143 hl (k := 2) rfl (by rw [sub_1]) (by decide) rfl (fun ls hl => ?_)
                  refine lv_goto (tgt := 32) hx hb dX5_reason_146 (by decide) ?_
                  exact ih32 (k - 1) x (by omega) (by omega) (by first | exact best_new (lo := k) (by omega) (by omega) (by rw [h_114] at hbb; exact hbb) (by omega) ((hit_iff hW (by omega) (by omega)).mpr ⟨h_51, h_62, h_84, h_95⟩) | exact best_near (by omega) (by omega) hbb (by omega) (by omega) ((hit_iff hW (by omega) (by omega)).mpr ⟨h_51, h_62, h_84, h_95⟩) h_131 | exact best_far (by omega) hbb (by omega) (by omega) h_131 | exact best_keep (by omega) hbb (hit_f hW (by omega) (by omega) (Or.inl h_51)) | exact best_keep (by omega) hbb (hit_f hW (by omega) (by omega) (Or.inr (Or.inl h_62))) | exact best_keep (by omega) hbb (hit_f hW (by omega) (by omega) (Or.inr (Or.inr (Or.inl h_84)))) | exact best_keep (by omega) hbb (hit_f hW (by omega) (by omega) (Or.inr (Or.inr (Or.inr h_95))))) _ (lv_sub hl [0, 1, 3, 4, 5, 6, 7] rfl)
                · exact absurd h_107 (by decide)
              · skip
                refine lv_aload_n hx hb dX5_reason_65 rfl (lv_at hl 3 rfl) ?_
                refine xGet C hN hP 0 (j := 7) rfl rfl iX5_reason_X5 (by decide) kX5_reason_26 rfl rfl dX5_reason_66 ?_
                refine lv_aload_n hx hb dX5_reason_69 rfl (lv_at hl 3 rfl) ?_
                refine lv_iload hx hb dX5_reason_70 (lv_at hl 0 rfl) ?_
                refine lv_iconst (v := nI 0) hx hb dX5_reason_72 (by decide) ?_
                refine xVro C hN (As := [.int (nI (k - 1)), .int (nI 0)]) (rest := [.ref (a 6)]) (q0 := 0) (c_X5_of xl D kA a V hs sl sv pd g_3 kt ln td (k - 1) 0 (by omega) (by omega)) (cwV 2 hts gX5_reason_X5_of rfl rfl rfl (by decide +kernel) ⟨Nat.le_of_ble_eq_true rfl, Nat.le_of_ble_eq_true rfl⟩) hP rfl rfl rfl rfl hl.1 rfl (Nat.le_of_ble_eq_true rfl) dX5_reason_73 ⟨Nat.le_of_ble_eq_true rfl, Nat.le_of_ble_eq_true rfl⟩ ?_
                refine xIald C hN hP 6 (j := TV V (k - 1) 0) (v := nI (stM (V 0) (TV V) c d (-6) (-6) 0 (TV V (k - 1) 0))) rfl (by have := hW (k - 1) (by omega); omega) (by decide) (hg_3 hpm _ (by have := hW (k - 1) (by omega); omega)) dX5_reason_76 ?_
                refine lv_aload_n hx hb dX5_reason_77 rfl (lv_at hl 3 rfl) ?_
                refine lv_iload hx hb dX5_reason_78 (lv_at hl 0 rfl) ?_
                refine lv_iconst (v := nI 4) hx hb dX5_reason_80 (by decide) ?_
                refine xVro C hN (As := [.int (nI (k - 1)), .int (nI 4)]) (rest := [.int (nI (stM (V 0) (TV V) c d (-6) (-6) 0 (TV V (k - 1) 0)))]) (q0 := 0) (c_X5_of xl D kA a V hs sl sv pd g_3 kt ln td (k - 1) 4 (by omega) (by omega)) (cwV 2 hts gX5_reason_X5_of rfl rfl rfl (by decide +kernel) ⟨Nat.le_of_ble_eq_true rfl, Nat.le_of_ble_eq_true rfl⟩) hP rfl rfl rfl rfl hl.1 rfl (Nat.le_of_ble_eq_true rfl) dX5_reason_81 ⟨Nat.le_of_ble_eq_true rfl, Nat.le_of_ble_eq_true rfl⟩ ?_
                refine xIcmpGe C (tgt := 102) (by have := pmx_le (F := lf2 (TV V) c d (-6) (-6) 0 (V 0)) (k := 9) (fun q => lf2_le hW (Nat.le_refl _) (by omega)) (TV V (k - 1) 0); unfold stM; omega) (by have := hW (k - 1) (by omega); omega) dX5_reason_84 (by decide) (fun h_84 => ?_) (fun h_84 => ?_)
                · skip
                  refine lv_iconst (v := nI 0) hx hb dX5_reason_102 (by decide) ?_
                  refine lv_istore (lv' := [(7, .int (nI 0)), (6, .int (nI (k - 1))), (5, .int x), (4, .int (nI (lstM (V 0) (TV V) c d (-6) (-6) 0))), (0, .ref (a 0)), (1, .int (nI c)), (2, .int (nI d)), (3, .int (nI rk))]) hx hb dX5_reason_103 hl (by decide) rfl (fun ls hl => ?_)
                  refine lv_iload hx hb dX5_reason_105 (lv_at hl 0 rfl) ?_
                  refine xIfEq C (tgt := 139) (by omega) dX5_reason_107 (by decide) (fun h_107 => ?_) (fun h_107 => ?_)
                  · skip
                    refine lv_iload hx hb dX5_reason_139 (lv_at hl 2 rfl) ?_
                    refine lv_istore (lv' := [(5, .int x), (7, .int (nI 0)), (6, .int (nI (k - 1))), (4, .int (nI (lstM (V 0) (TV V) c d (-6) (-6) 0))), (0, .ref (a 0)), (1, .int (nI c)), (2, .int (nI d)), (3, .int (nI rk))]) hx hb dX5_reason_141 hl (by decide) rfl (fun ls hl => ?_)
                    refine lv_iinc (v := nI (k - 1) - nI 1) (lv' := [(6, .int (nI (k - 1) - nI 1)), (5, .int x), (7, .int (nI 0)), (4, .int (nI (lstM (V 0) (TV V) c d (-6) (-6) 0))), (0, .ref (a 0)), (1, .int (nI c)), (2, .int (nI d)), (3, .int (nI rk))]) hx hb dX5_reason_143 hl (k := 2) rfl (by rw [sub_1]) (by decide) rfl (fun ls hl => ?_)
                    refine lv_goto (tgt := 32) hx hb dX5_reason_146 (by decide) ?_
                    exact ih32 (k - 1) x (by omega) (by omega) (by first | exact best_new (lo := k) (by omega) (by omega) (by rw [h_114] at hbb; exact hbb) (by omega) ((hit_iff hW (by omega) (by omega)).mpr ⟨h_51, h_62, h_84, h_95⟩) | exact best_near (by omega) (by omega) hbb (by omega) (by omega) ((hit_iff hW (by omega) (by omega)).mpr ⟨h_51, h_62, h_84, h_95⟩) h_131 | exact best_far (by omega) hbb (by omega) (by omega) h_131 | exact best_keep (by omega) hbb (hit_f hW (by omega) (by omega) (Or.inl h_51)) | exact best_keep (by omega) hbb (hit_f hW (by omega) (by omega) (Or.inr (Or.inl h_62))) | exact best_keep (by omega) hbb (hit_f hW (by omega) (by omega) (Or.inr (Or.inr (Or.inl h_84)))) | exact best_keep (by omega) hbb (hit_f hW (by omega) (by omega) (Or.inr (Or.inr (Or.inr h_95))))) _ (lv_sub hl [0, 1, 3, 4, 5, 6, 7] rfl)
                  · exact absurd h_107 (by decide)
                · skip
                  refine lv_iload_n hx hb dX5_reason_87 rfl (lv_at hl 6 rfl) ?_
                  refine lv_aload_n hx hb dX5_reason_88 rfl (lv_at hl 3 rfl) ?_
                  refine lv_iload hx hb dX5_reason_89 (lv_at hl 0 rfl) ?_
                  refine lv_iconst (v := nI 4) hx hb dX5_reason_91 (by decide) ?_
                  refine xVro C hN (As := [.int (nI (k - 1)), .int (nI 4)]) (rest := [.int (nI rk)]) (q0 := 0) (c_X5_of xl D kA a V hs sl sv pd g_3 kt ln td (k - 1) 4 (by omega) (by omega)) (cwV 2 hts gX5_reason_X5_of rfl rfl rfl (by decide +kernel) ⟨Nat.le_of_ble_eq_true rfl, Nat.le_of_ble_eq_true rfl⟩) hP rfl rfl rfl rfl hl.1 rfl (Nat.le_of_ble_eq_true rfl) dX5_reason_92 ⟨Nat.le_of_ble_eq_true rfl, Nat.le_of_ble_eq_true rfl⟩ ?_
                  refine xIcmpGe C (tgt := 102) (by omega) (by have := hW (k - 1) (by omega); omega) dX5_reason_95 (by decide) (fun h_95 => ?_) (fun h_95 => ?_)
                  · skip
                    refine lv_iconst (v := nI 0) hx hb dX5_reason_102 (by decide) ?_
                    refine lv_istore (lv' := [(7, .int (nI 0)), (6, .int (nI (k - 1))), (5, .int x), (4, .int (nI (lstM (V 0) (TV V) c d (-6) (-6) 0))), (0, .ref (a 0)), (1, .int (nI c)), (2, .int (nI d)), (3, .int (nI rk))]) hx hb dX5_reason_103 hl (by decide) rfl (fun ls hl => ?_)
                    refine lv_iload hx hb dX5_reason_105 (lv_at hl 0 rfl) ?_
                    refine xIfEq C (tgt := 139) (by omega) dX5_reason_107 (by decide) (fun h_107 => ?_) (fun h_107 => ?_)
                    · skip
                      refine lv_iload hx hb dX5_reason_139 (lv_at hl 2 rfl) ?_
                      refine lv_istore (lv' := [(5, .int x), (7, .int (nI 0)), (6, .int (nI (k - 1))), (4, .int (nI (lstM (V 0) (TV V) c d (-6) (-6) 0))), (0, .ref (a 0)), (1, .int (nI c)), (2, .int (nI d)), (3, .int (nI rk))]) hx hb dX5_reason_141 hl (by decide) rfl (fun ls hl => ?_)
                      refine lv_iinc (v := nI (k - 1) - nI 1) (lv' := [(6, .int (nI (k - 1) - nI 1)), (5, .int x), (7, .int (nI 0)), (4, .int (nI (lstM (V 0) (TV V) c d (-6) (-6) 0))), (0, .ref (a 0)), (1, .int (nI c)), (2, .int (nI d)), (3, .int (nI rk))]) hx hb dX5_reason_143 hl (k := 2) rfl (by rw [sub_1]) (by decide) rfl (fun ls hl => ?_)
                      refine lv_goto (tgt := 32) hx hb dX5_reason_146 (by decide) ?_
                      exact ih32 (k - 1) x (by omega) (by omega) (by first | exact best_new (lo := k) (by omega) (by omega) (by rw [h_114] at hbb; exact hbb) (by omega) ((hit_iff hW (by omega) (by omega)).mpr ⟨h_51, h_62, h_84, h_95⟩) | exact best_near (by omega) (by omega) hbb (by omega) (by omega) ((hit_iff hW (by omega) (by omega)).mpr ⟨h_51, h_62, h_84, h_95⟩) h_131 | exact best_far (by omega) hbb (by omega) (by omega) h_131 | exact best_keep (by omega) hbb (hit_f hW (by omega) (by omega) (Or.inl h_51)) | exact best_keep (by omega) hbb (hit_f hW (by omega) (by omega) (Or.inr (Or.inl h_62))) | exact best_keep (by omega) hbb (hit_f hW (by omega) (by omega) (Or.inr (Or.inr (Or.inl h_84)))) | exact best_keep (by omega) hbb (hit_f hW (by omega) (by omega) (Or.inr (Or.inr (Or.inr h_95))))) _ (lv_sub hl [0, 1, 3, 4, 5, 6, 7] rfl)
                    · exact absurd h_107 (by decide)
                  · skip
                    refine lv_iconst (v := nI 1) hx hb dX5_reason_98 (by decide) ?_
                    refine lv_goto (tgt := 103) hx hb dX5_reason_99 (by decide) ?_
                    refine lv_istore (lv' := [(7, .int (nI 1)), (6, .int (nI (k - 1))), (5, .int x), (4, .int (nI (lstM (V 0) (TV V) c d (-6) (-6) 0))), (0, .ref (a 0)), (1, .int (nI c)), (2, .int (nI d)), (3, .int (nI rk))]) hx hb dX5_reason_103 hl (by decide) rfl (fun ls hl => ?_)
                    refine lv_iload hx hb dX5_reason_105 (lv_at hl 0 rfl) ?_
                    refine xIfEq C (tgt := 139) (by omega) dX5_reason_107 (by decide) (fun h_107 => ?_) (fun h_107 => ?_)
                    · exact absurd h_107 (by decide)
                    · skip
                      refine lv_iload hx hb dX5_reason_110 (lv_at hl 2 rfl) ?_
                      refine lv_bipush (v := (-6)) hx hb dX5_reason_112 (by decide) ?_
                      refine lv_icmp_eq (tgt := 134) hx hb dX5_reason_114 (by decide) (fun h_114 => ?_) (fun h_114 => ?_)
                      · skip
                        refine lv_iload hx hb dX5_reason_134 (lv_at hl 1 rfl) ?_
                        refine lv_goto (tgt := 141) hx hb dX5_reason_136 (by decide) ?_
                        refine lv_istore (lv' := [(5, .int (nI (k - 1))), (7, .int (nI 1)), (6, .int (nI (k - 1))), (4, .int (nI (lstM (V 0) (TV V) c d (-6) (-6) 0))), (0, .ref (a 0)), (1, .int (nI c)), (2, .int (nI d)), (3, .int (nI rk))]) hx hb dX5_reason_141 hl (by decide) rfl (fun ls hl => ?_)
                        refine lv_iinc (v := nI (k - 1) - nI 1) (lv' := [(6, .int (nI (k - 1) - nI 1)), (5, .int (nI (k - 1))), (7, .int (nI 1)), (4, .int (nI (lstM (V 0) (TV V) c d (-6) (-6) 0))), (0, .ref (a 0)), (1, .int (nI c)), (2, .int (nI d)), (3, .int (nI rk))]) hx hb dX5_reason_143 hl (k := 2) rfl (by rw [sub_1]) (by decide) rfl (fun ls hl => ?_)
                        refine lv_goto (tgt := 32) hx hb dX5_reason_146 (by decide) ?_
                        exact ih32 (k - 1) (nI (k - 1)) (by omega) (by omega) (by first | exact best_new (lo := k) (by omega) (by omega) (by rw [h_114] at hbb; exact hbb) (by omega) ((hit_iff hW (by omega) (by omega)).mpr ⟨h_51, h_62, h_84, h_95⟩) | exact best_near (by omega) (by omega) hbb (by omega) (by omega) ((hit_iff hW (by omega) (by omega)).mpr ⟨h_51, h_62, h_84, h_95⟩) h_131 | exact best_far (by omega) hbb (by omega) (by omega) h_131 | exact best_keep (by omega) hbb (hit_f hW (by omega) (by omega) (Or.inl h_51)) | exact best_keep (by omega) hbb (hit_f hW (by omega) (by omega) (Or.inr (Or.inl h_62))) | exact best_keep (by omega) hbb (hit_f hW (by omega) (by omega) (Or.inr (Or.inr (Or.inl h_84)))) | exact best_keep (by omega) hbb (hit_f hW (by omega) (by omega) (Or.inr (Or.inr (Or.inr h_95))))) _ (lv_sub hl [0, 1, 3, 4, 5, 6, 7] rfl)
                      · skip
                        obtain ⟨y, y1, y2, rfl⟩ := best_at hbb h_114
                        skip
                        refine lv_aload_n hx hb dX5_reason_117 rfl (lv_at hl 4 rfl) ?_
                        refine lv_iload hx hb dX5_reason_118 (lv_at hl 1 rfl) ?_
                        refine lv_iconst (v := nI 0) hx hb dX5_reason_120 (by decide) ?_
                        refine xVro C hN (As := [.int (nI (k - 1)), .int (nI 0)]) (rest := []) (q0 := 0) (c_X5_of xl D kA a V hs sl sv pd g_3 kt ln td (k - 1) 0 (by omega) (by omega)) (cwV 2 hts gX5_reason_X5_of rfl rfl rfl (by decide +kernel) ⟨Nat.le_of_ble_eq_true rfl, Nat.le_of_ble_eq_true rfl⟩) hP rfl rfl rfl rfl hl.1 rfl (Nat.le_of_ble_eq_true rfl) dX5_reason_121 ⟨Nat.le_of_ble_eq_true rfl, Nat.le_of_ble_eq_true rfl⟩ ?_
                        refine lv_aload_n hx hb dX5_reason_124 rfl (lv_at hl 4 rfl) ?_
                        refine lv_iload hx hb dX5_reason_125 (lv_at hl 2 rfl) ?_
                        refine lv_iconst (v := nI 0) hx hb dX5_reason_127 (by decide) ?_
                        refine xVro C hN (As := [.int (nI y), .int (nI 0)]) (rest := [.int (nI (TV V (k - 1) 0))]) (q0 := 0) (c_X5_of xl D kA a V hs sl sv pd g_3 kt ln td y 0 (by omega) (by omega)) (cwV 2 hts gX5_reason_X5_of rfl rfl rfl (by decide +kernel) ⟨Nat.le_of_ble_eq_true rfl, Nat.le_of_ble_eq_true rfl⟩) hP rfl rfl rfl rfl hl.1 rfl (Nat.le_of_ble_eq_true rfl) dX5_reason_128 ⟨Nat.le_of_ble_eq_true rfl, Nat.le_of_ble_eq_true rfl⟩ ?_
                        refine xIcmpGt C (tgt := 139) (by have := hW (k - 1) (by omega); omega) (by have := hW y (by omega); omega) dX5_reason_131 (by decide) (fun h_131 => ?_) (fun h_131 => ?_)
                        · skip
                          refine lv_iload hx hb dX5_reason_139 (lv_at hl 2 rfl) ?_
                          refine lv_istore (lv' := [(5, .int (nI y)), (7, .int (nI 1)), (6, .int (nI (k - 1))), (4, .int (nI (lstM (V 0) (TV V) c d (-6) (-6) 0))), (0, .ref (a 0)), (1, .int (nI c)), (2, .int (nI d)), (3, .int (nI rk))]) hx hb dX5_reason_141 hl (by decide) rfl (fun ls hl => ?_)
                          refine lv_iinc (v := nI (k - 1) - nI 1) (lv' := [(6, .int (nI (k - 1) - nI 1)), (5, .int (nI y)), (7, .int (nI 1)), (4, .int (nI (lstM (V 0) (TV V) c d (-6) (-6) 0))), (0, .ref (a 0)), (1, .int (nI c)), (2, .int (nI d)), (3, .int (nI rk))]) hx hb dX5_reason_143 hl (k := 2) rfl (by rw [sub_1]) (by decide) rfl (fun ls hl => ?_)
                          refine lv_goto (tgt := 32) hx hb dX5_reason_146 (by decide) ?_
                          exact ih32 (k - 1) (nI y) (by omega) (by omega) (by first | exact best_new (lo := k) (by omega) (by omega) (by rw [h_114] at hbb; exact hbb) (by omega) ((hit_iff hW (by omega) (by omega)).mpr ⟨h_51, h_62, h_84, h_95⟩) | exact best_near (by omega) (by omega) hbb (by omega) (by omega) ((hit_iff hW (by omega) (by omega)).mpr ⟨h_51, h_62, h_84, h_95⟩) h_131 | exact best_far (by omega) hbb (by omega) (by omega) h_131 | exact best_keep (by omega) hbb (hit_f hW (by omega) (by omega) (Or.inl h_51)) | exact best_keep (by omega) hbb (hit_f hW (by omega) (by omega) (Or.inr (Or.inl h_62))) | exact best_keep (by omega) hbb (hit_f hW (by omega) (by omega) (Or.inr (Or.inr (Or.inl h_84)))) | exact best_keep (by omega) hbb (hit_f hW (by omega) (by omega) (Or.inr (Or.inr (Or.inr h_95))))) _ (lv_sub hl [0, 1, 3, 4, 5, 6, 7] rfl)
                        · skip
                          refine lv_iload hx hb dX5_reason_134 (lv_at hl 1 rfl) ?_
                          refine lv_goto (tgt := 141) hx hb dX5_reason_136 (by decide) ?_
                          refine lv_istore (lv' := [(5, .int (nI (k - 1))), (7, .int (nI 1)), (6, .int (nI (k - 1))), (4, .int (nI (lstM (V 0) (TV V) c d (-6) (-6) 0))), (0, .ref (a 0)), (1, .int (nI c)), (2, .int (nI d)), (3, .int (nI rk))]) hx hb dX5_reason_141 hl (by decide) rfl (fun ls hl => ?_)
                          refine lv_iinc (v := nI (k - 1) - nI 1) (lv' := [(6, .int (nI (k - 1) - nI 1)), (5, .int (nI (k - 1))), (7, .int (nI 1)), (4, .int (nI (lstM (V 0) (TV V) c d (-6) (-6) 0))), (0, .ref (a 0)), (1, .int (nI c)), (2, .int (nI d)), (3, .int (nI rk))]) hx hb dX5_reason_143 hl (k := 2) rfl (by rw [sub_1]) (by decide) rfl (fun ls hl => ?_)
                          refine lv_goto (tgt := 32) hx hb dX5_reason_146 (by decide) ?_
                          exact ih32 (k - 1) (nI (k - 1)) (by omega) (by omega) (by first | exact best_new (lo := k) (by omega) (by omega) (by rw [h_114] at hbb; exact hbb) (by omega) ((hit_iff hW (by omega) (by omega)).mpr ⟨h_51, h_62, h_84, h_95⟩) | exact best_near (by omega) (by omega) hbb (by omega) (by omega) ((hit_iff hW (by omega) (by omega)).mpr ⟨h_51, h_62, h_84, h_95⟩) h_131 | exact best_far (by omega) hbb (by omega) (by omega) h_131 | exact best_keep (by omega) hbb (hit_f hW (by omega) (by omega) (Or.inl h_51)) | exact best_keep (by omega) hbb (hit_f hW (by omega) (by omega) (Or.inr (Or.inl h_62))) | exact best_keep (by omega) hbb (hit_f hW (by omega) (by omega) (Or.inr (Or.inr (Or.inl h_84)))) | exact best_keep (by omega) hbb (hit_f hW (by omega) (by omega) (Or.inr (Or.inr (Or.inr h_95))))) _ (lv_sub hl [0, 1, 3, 4, 5, 6, 7] rfl)
    exact L32 _ (V 0) (-6) (Nat.lt_succ_self _) (by omega) (Or.inl ⟨rfl, fun i h1 h2 => by omega⟩) _ (lv_sub hl [0, 1, 2, 3, 4, 5, 6] rfl)
  · skip
    refine lv_bipush (v := nI 100) hx hb dX5_reason_15 (by decide) ?_
    exact xRetI hx hb hret (v := nI 100) (⟨by rw [rsn_10 hW (by rw [← lstM_now hW (by omega)]; exact h_12)], g_3, rfl⟩) hP hD hS dX5_reason_17 hlocks

set_option maxHeartbeats 8000000 in
set_option maxRecDepth 100000 in
theorem c_X5_lays (xl : Launch) (D : va_G) (kA : Nat → ClassId) (a : Nat → Nat) (V : Nat → Nat) (hs sl sv pd sg : Nat → Int32) (kt ln td : Nat) (q x : Nat) (hq : q < 169) (HH : Nat → Nat → Nat) (hH : relH hs kt HH) (hk : kt ≤ 6) (A : Nat → Prop) : Met xl yX5_lays wsX5_lays { frames := 1, cells := 0, slots := 0, locals := 21 } (va_Pc [.ref (a 0), .int (nI q), .int (nI x)] (xPw D kA A [((a 0), .inr (5, [.ref (a 1), .ref (a 2), .int (nI kt), .ref (a 3), .ref (a 4), .ref (a 5), .int (nI ln), .ref (a 6), .int (nI td)])), ((a 1), .inl (kA 0, 169, .inl (vI V))), ((a 2), .inl (kA 0, 1014, .inl (hs))), ((a 3), .inl (kA 0, 338, .inl (sl))), ((a 4), .inl (kA 2, 2, .inl (sv))), ((a 5), .inl (kA 0, 60, .inl (pd))), ((a 6), .inl (kA 0, 5, .inl (sg)))])) (xQi D A (fun r u => r = nI (V q) ∧ ∃ h2 : Nat → Int32, u = modW kA a (updN V q x) h2 sl sv pd sg (pushN kt) ln td ∧ relH h2 (pushN kt) (pushH HH kt V))) 0 0 A := by
  refine Met.ofW (cc := cX5_lays) (maxL := 4) (ret := (some .int)) (by decide) rfl ?_
  intro xp xe xs xm args xbe xme xc s₁ B hml hv
  obtain ⟨rfl, hP, hN, hD, hA⟩ := hv
  have hret := B.returns
  have C : CallFix xp xm xc cX5_lays 4 xs ([.ref (a 0), .int (nI q), .int (nI x)] : List Value).toArray wsX5_lays RX5 := ⟨B.exec, B.bytes, hml, findClass_of_methodNamed B.named, atoms_spec (ws := wsX5_lays) B.pre⟩
  have hlocks := B.notSynchronized
  obtain ⟨hx, hb, _, hown, hts⟩ := id C
  have hS : va_S A xs.heap xs.heap [] := va_S.rf
  have hl := lv_entry ([.ref (a 0), .int (nI q), .int (nI x)]) (n := 4) (Nat.le_of_ble_eq_true rfl)
  rw [lg_entry_eq]
  generalize (lg_sl ([.ref (a 0), .int (nI q), .int (nI x)]) ++ List.replicate (4 - (lg_sl ([.ref (a 0), .int (nI q), .int (nI x)])).length) Slot.unset).toArray = ls at hl ⊢
  have hl : lv_has ls 4 [(0, .ref (a 0)), (1, .int (nI q)), (2, .int (nI x))] := hl
  refine lv_aload_n hx hb dX5_lays_0 rfl (lv_at hl 0 rfl) ?_
  refine xWWv hS (va_runV (As := []) (rest := []) C (c_X5_record xl D kA a V hs sl sv pd sg kt ln td HH hH hk A) (cwV 0 hts gX5_lays_X5_record rfl rfl rfl (by decide +kernel) ⟨Nat.le_of_ble_eq_true rfl, Nat.le_of_ble_eq_true rfl⟩) (xPreVw (q0 := 0) hN hP hD (xAll hS hA) rfl rfl rfl) rfl rfl hl.1 rfl (lv_room (Nat.le_of_ble_eq_true rfl)) dX5_lays_1 ⟨Nat.le_of_ble_eq_true rfl, Nat.le_of_ble_eq_true rfl⟩) (fun u_1 H locs hq_1 hP hD hS => ?_)
  obtain ⟨h_r, rfl, hh_r⟩ := hq_1
  have hP : va_P D vwCl [((a 0), .inr (5, [.ref (a 1), .ref (a 2), .int (nI (pushN kt)), .ref (a 3), .ref (a 4), .ref (a 5), .int (nI ln), .ref (a 6), .int (nI td)])), ((a 1), .inl (kA 0, 169, .inl (vI V))), ((a 2), .inl (kA 0, 1014, .inl (h_r))), ((a 3), .inl (kA 0, 338, .inl (sl))), ((a 4), .inl (kA 2, 2, .inl (sv))), ((a 5), .inl (kA 0, 60, .inl (pd))), ((a 6), .inl (kA 0, 5, .inl (sg)))] H := hP
  have hD : va_D A [((a 0), .inr (5, [.ref (a 1), .ref (a 2), .int (nI (pushN kt)), .ref (a 3), .ref (a 4), .ref (a 5), .int (nI ln), .ref (a 6), .int (nI td)])), ((a 1), .inl (kA 0, 169, .inl (vI V))), ((a 2), .inl (kA 0, 1014, .inl (h_r))), ((a 3), .inl (kA 0, 338, .inl (sl))), ((a 4), .inl (kA 2, 2, .inl (sv))), ((a 5), .inl (kA 0, 60, .inl (pd))), ((a 6), .inl (kA 0, 5, .inl (sg)))] := hD
  refine lv_aload_n hx hb dX5_lays_4 rfl (lv_at hl 0 rfl) ?_
  refine xGet C hN hP 0 (j := 0) rfl rfl iX5_lays_X5 (by decide) kX5_lays_7 rfl rfl dX5_lays_5 ?_
  refine lv_iload_n hx hb dX5_lays_8 rfl (lv_at hl 1 rfl) ?_
  refine xIald C hN hP 1 (j := q) (v := nI (V q)) rfl (by omega) (by decide) (rfl) dX5_lays_9 ?_
  refine lv_istore_n (lv' := [(3, .int (nI (V q))), (0, .ref (a 0)), (1, .int (nI q)), (2, .int (nI x))]) hx hb dX5_lays_10 rfl hl (by decide) rfl (fun ls hl => ?_)
  refine lv_aload_n hx hb dX5_lays_11 rfl (lv_at hl 1 rfl) ?_
  refine xGet C hN hP 0 (j := 0) rfl rfl iX5_lays_X5 (by decide) kX5_lays_7 rfl rfl dX5_lays_12 ?_
  refine lv_iload_n hx hb dX5_lays_15 rfl (lv_at hl 2 rfl) ?_
  refine lv_iload_n hx hb dX5_lays_16 rfl (lv_at hl 3 rfl) ?_
  refine xIast C hN hP hD hS 1 (j := q) rfl (by omega) (by decide) dX5_lays_17 (fun H locs hP hD hS => ?_)
  rw [show upd (vI V) (q) (nI x) = vI (updN V (q) x) from upd_vI _ _ _] at hP hD
  have hP : va_P D vwCl [((a 0), .inr (5, [.ref (a 1), .ref (a 2), .int (nI (pushN kt)), .ref (a 3), .ref (a 4), .ref (a 5), .int (nI ln), .ref (a 6), .int (nI td)])), ((a 1), .inl (kA 0, 169, .inl (vI (updN V (q) x)))), ((a 2), .inl (kA 0, 1014, .inl (h_r))), ((a 3), .inl (kA 0, 338, .inl (sl))), ((a 4), .inl (kA 2, 2, .inl (sv))), ((a 5), .inl (kA 0, 60, .inl (pd))), ((a 6), .inl (kA 0, 5, .inl (sg)))] H := hP
  have hD : va_D A [((a 0), .inr (5, [.ref (a 1), .ref (a 2), .int (nI (pushN kt)), .ref (a 3), .ref (a 4), .ref (a 5), .int (nI ln), .ref (a 6), .int (nI td)])), ((a 1), .inl (kA 0, 169, .inl (vI (updN V (q) x)))), ((a 2), .inl (kA 0, 1014, .inl (h_r))), ((a 3), .inl (kA 0, 338, .inl (sl))), ((a 4), .inl (kA 2, 2, .inl (sv))), ((a 5), .inl (kA 0, 60, .inl (pd))), ((a 6), .inl (kA 0, 5, .inl (sg)))] := hD
  refine lv_iload_n hx hb dX5_lays_18 rfl (lv_at hl 0 rfl) ?_
  exact xRetI hx hb hret (v := nI (V q)) (⟨rfl, h_r, rfl, hh_r⟩) hP hD hS dX5_lays_19 hlocks

set_option maxHeartbeats 8000000 in
set_option maxRecDepth 100000 in
theorem c_X5_firstIdle (xl : Launch) (D : va_G) (kA : Nat → ClassId) (a : Nat → Nat) (V : Nat → Nat) (hs sl sv pd sg : Nat → Int32) (kt ln td : Nat) (hV : V 0 ≤ 24) (hW : WfT (V 0) (TV V)) (A : Nat → Prop) : Met xl yX5_firstIdle wsX5_firstIdle { frames := 7, cells := 0, slots := 0, locals := 166 } (va_Pc [.ref (a 0)] (xPw D kA A [((a 0), .inr (5, [.ref (a 1), .ref (a 2), .int (nI kt), .ref (a 3), .ref (a 4), .ref (a 5), .int (nI ln), .ref (a 6), .int (nI td)])), ((a 1), .inl (kA 0, 169, .inl (vI V))), ((a 2), .inl (kA 0, 1014, .inl (hs))), ((a 3), .inl (kA 0, 338, .inl (sl))), ((a 4), .inl (kA 2, 2, .inl (sv))), ((a 5), .inl (kA 0, 60, .inl (pd))), ((a 6), .inl (kA 0, 5, .inl (sg)))])) (xQi D A (fun r u => r = fiR V ∧ ∃ g : Nat → Int32, u = modW kA a V hs sl sv pd g kt ln td)) 0 0 A := by
  refine Met.ofW (cc := cX5_firstIdle) (maxL := 2) (ret := (some .int)) (by decide) rfl ?_
  intro xp xe xs xm args xbe xme xc s₁ B hml hv
  obtain ⟨rfl, hP, hN, hD, hA⟩ := hv
  have hret := B.returns
  have C : CallFix xp xm xc cX5_firstIdle 2 xs ([.ref (a 0)] : List Value).toArray wsX5_firstIdle RX5 := ⟨B.exec, B.bytes, hml, findClass_of_methodNamed B.named, atoms_spec (ws := wsX5_firstIdle) B.pre⟩
  have hlocks := B.notSynchronized
  obtain ⟨hx, hb, _, hown, hts⟩ := id C
  have hS : va_S A xs.heap xs.heap [] := va_S.rf
  have hl := lv_entry ([.ref (a 0)]) (n := 2) (Nat.le_of_ble_eq_true rfl)
  rw [lg_entry_eq]
  generalize (lg_sl ([.ref (a 0)]) ++ List.replicate (2 - (lg_sl ([.ref (a 0)])).length) Slot.unset).toArray = ls at hl ⊢
  have hl : lv_has ls 2 [(0, .ref (a 0))] := hl
  refine lv_iconst (v := nI 0) hx hb dX5_firstIdle_0 (by decide) ?_
  refine lv_istore_n (lv' := [(1, .int (nI 0)), (0, .ref (a 0))]) hx hb dX5_firstIdle_1 rfl hl (by decide) rfl (fun ls hl => ?_)
  have L2 : ∀ (fuel : Nat), ∀ (i : Nat) (g1 : Nat → Int32) (hmu : V 0 - i < fuel) (hi : i ≤ V 0) (hj : ∀ j, j < i → idB V j = false) (H : Heap) (locs : List Loc) (_ : va_P D vwCl [((a 0), .inr (5, [.ref (a 1), .ref (a 2), .int (nI kt), .ref (a 3), .ref (a 4), .ref (a 5), .int (nI ln), .ref (a 6), .int (nI td)])), ((a 1), .inl (kA 0, 169, .inl (vI V))), ((a 2), .inl (kA 0, 1014, .inl (hs))), ((a 3), .inl (kA 0, 338, .inl (sl))), ((a 4), .inl (kA 2, 2, .inl (sv))), ((a 5), .inl (kA 0, 60, .inl (pd))), ((a 6), .inl (kA 0, 5, .inl (g1)))] H) (_ : va_D A [((a 0), .inr (5, [.ref (a 1), .ref (a 2), .int (nI kt), .ref (a 3), .ref (a 4), .ref (a 5), .int (nI ln), .ref (a 6), .int (nI td)])), ((a 1), .inl (kA 0, 169, .inl (vI V))), ((a 2), .inl (kA 0, 1014, .inl (hs))), ((a 3), .inl (kA 0, 338, .inl (sl))), ((a 4), .inl (kA 2, 2, .inl (sv))), ((a 5), .inl (kA 0, 60, .inl (pd))), ((a 6), .inl (kA 0, 5, .inl (g1)))]) (_ : va_S A xs.heap H locs) (ls : Array Slot) (_ : lv_has ls 2 [(1, .int (nI i)), (0, .ref (a 0))]), W xp xl xe (headSpec wsX5_firstIdle { frames := 7, cells := 0, slots := 0, locals := 166 }).room xs xm ([.ref (a 0)] : List Value).toArray xbe xme xc H locs 0 0 (MQ xbe (xQi D A (fun r u => r = fiR V ∧ ∃ g : Nat → Int32, u = modW kA a V hs sl sv pd g kt ln td)) ([.ref (a 0)] : List Value).toArray xs 0 0 A) (F0 xm 2 ls []) := by
    intro fuel
    induction fuel with
    | zero => intro i g1 hmu; exact absurd hmu (Nat.not_lt_zero _)
    | succ fuel ih2 =>
      intro i g1 hmu hi hj H locs hP hD hS ls hl
      refine lv_iload_n hx hb dX5_firstIdle_2 rfl (lv_at hl 0 rfl) ?_
      refine lv_aload_n hx hb dX5_firstIdle_3 rfl (lv_at hl 1 rfl) ?_
      refine xGet C hN hP 0 (j := 0) rfl rfl iX5_firstIdle_X5 (by decide) kX5_firstIdle_7 rfl rfl dX5_firstIdle_4 ?_
      refine lv_iconst (v := nI 0) hx hb dX5_firstIdle_7 (by decide) ?_
      refine xIald C hN hP 1 (j := 0) (v := nI (V 0)) rfl (by omega) (by decide) (rfl) dX5_firstIdle_8 ?_
      refine xIcmpGe C (tgt := 28) (by omega) (by omega) dX5_firstIdle_9 (by decide) (fun h_9 => ?_) (fun h_9 => ?_)
      · skip
        refine lv_bipush (v := (-6)) hx hb dX5_firstIdle_28 (by decide) ?_
        exact xRetI hx hb hret (v := (-6)) (⟨fi_none (fun j h => hj j (by omega)), g1, rfl⟩) hP hD hS dX5_firstIdle_30 hlocks
      · skip
        refine lv_aload_n hx hb dX5_firstIdle_12 rfl (lv_at hl 1 rfl) ?_
        refine lv_iload_n hx hb dX5_firstIdle_13 rfl (lv_at hl 0 rfl) ?_
        refine xWWi hS (va_runV (As := [.int (nI i)]) (rest := []) C (c_X5_isIdle xl D kA a V hs sl sv pd g1 kt ln td hV hW i (by omega) A) (cwV 1 hts gX5_firstIdle_X5_isIdle rfl rfl rfl (by decide +kernel) ⟨Nat.le_of_ble_eq_true rfl, Nat.le_of_ble_eq_true rfl⟩) (xPreVw (q0 := 0) hN hP hD (xAll hS hA) rfl rfl rfl) rfl rfl hl.1 rfl (lv_room (Nat.le_of_ble_eq_true rfl)) dX5_firstIdle_14 ⟨Nat.le_of_ble_eq_true rfl, Nat.le_of_ble_eq_true rfl⟩) (fun r_14 u_14 H locs hq_14 hP hD hS => ?_)
        obtain ⟨rfl, g_14, rfl⟩ := hq_14
        have hP : va_P D vwCl [((a 0), .inr (5, [.ref (a 1), .ref (a 2), .int (nI kt), .ref (a 3), .ref (a 4), .ref (a 5), .int (nI ln), .ref (a 6), .int (nI td)])), ((a 1), .inl (kA 0, 169, .inl (vI V))), ((a 2), .inl (kA 0, 1014, .inl (hs))), ((a 3), .inl (kA 0, 338, .inl (sl))), ((a 4), .inl (kA 2, 2, .inl (sv))), ((a 5), .inl (kA 0, 60, .inl (pd))), ((a 6), .inl (kA 0, 5, .inl (g_14)))] H := hP
        have hD : va_D A [((a 0), .inr (5, [.ref (a 1), .ref (a 2), .int (nI kt), .ref (a 3), .ref (a 4), .ref (a 5), .int (nI ln), .ref (a 6), .int (nI td)])), ((a 1), .inl (kA 0, 169, .inl (vI V))), ((a 2), .inl (kA 0, 1014, .inl (hs))), ((a 3), .inl (kA 0, 338, .inl (sl))), ((a 4), .inl (kA 2, 2, .inl (sv))), ((a 5), .inl (kA 0, 60, .inl (pd))), ((a 6), .inl (kA 0, 5, .inl (g_14)))] := hD
        refine xIfEqB C (tgt := 22) dX5_firstIdle_17 (by decide) (fun h_17 => ?_) (fun h_17 => ?_)
        · skip
          refine xIinc C (kx := 0) (d := 1) (lv' := [(1, .int (nI (i + 1))), (0, .ref (a 0))]) dX5_firstIdle_22 hl rfl (by decide) (by decide) rfl (fun ls hl => ?_)
          refine lv_goto (tgt := 2) hx hb dX5_firstIdle_25 (by decide) ?_
          have hP : va_P D vwCl [((a 0), .inr (5, [.ref (a 1), .ref (a 2), .int (nI kt), .ref (a 3), .ref (a 4), .ref (a 5), .int (nI ln), .ref (a 6), .int (nI td)])), ((a 1), .inl (kA 0, 169, .inl (vI V))), ((a 2), .inl (kA 0, 1014, .inl (hs))), ((a 3), .inl (kA 0, 338, .inl (sl))), ((a 4), .inl (kA 2, 2, .inl (sv))), ((a 5), .inl (kA 0, 60, .inl (pd))), ((a 6), .inl (kA 0, 5, .inl (g_14)))] H := hP
          exact ih2 (i + 1) g_14 (by omega) (by omega) (fun j h => by rcases Nat.lt_or_ge j i with c | c; exact hj j c; rw [show j = i by omega]; exact h_17) _ _ hP hD hS _ (lv_sub hl [0, 1] rfl)
        · skip
          refine lv_iload_n hx hb dX5_firstIdle_20 rfl (lv_at hl 0 rfl) ?_
          exact xRetI hx hb hret (v := nI i) (⟨fi_at (by omega) h_17 hj, g_14, rfl⟩) hP hD hS dX5_firstIdle_21 hlocks
  exact L2 _ 0 sg (Nat.lt_succ_self _) (by omega) (fun j h => absurd h (Nat.not_lt_zero j)) _ _ hP hD hS _ (lv_sub hl [0, 1] rfl)

set_option maxHeartbeats 8000000 in
set_option maxRecDepth 100000 in
theorem c_X5_sumOf (xl : Launch) (D : va_G) (kA : Nat → ClassId) (a : Nat → Nat) (V : Nat → Nat) (hs sl sv pd sg : Nat → Int32) (kt ln td : Nat) (hV : V 0 ≤ 24) (hW : WfT (V 0) (TV V)) (w : Nat) (hw : 1 ≤ w) (hw5 : w ≤ 5) (A : Nat → Prop) : Met xl yX5_sumOf wsX5_sumOf { frames := 7, cells := 0, slots := 0, locals := 166 } (va_Pc [.ref (a 0), .int (nI w)] (xPw D kA A [((a 0), .inr (5, [.ref (a 1), .ref (a 2), .int (nI kt), .ref (a 3), .ref (a 4), .ref (a 5), .int (nI ln), .ref (a 6), .int (nI td)])), ((a 1), .inl (kA 0, 169, .inl (vI V))), ((a 2), .inl (kA 0, 1014, .inl (hs))), ((a 3), .inl (kA 0, 338, .inl (sl))), ((a 4), .inl (kA 2, 2, .inl (sv))), ((a 5), .inl (kA 0, 60, .inl (pd))), ((a 6), .inl (kA 0, 5, .inl (sg)))])) (xQi D A (fun r u => r = nI (smF V w (V 0)) ∧ ∃ g : Nat → Int32, u = modW kA a V hs sl sv pd g kt ln td)) 0 0 A := by
  refine Met.ofW (cc := cX5_sumOf) (maxL := 4) (ret := (some .int)) (by decide) rfl ?_
  intro xp xe xs xm args xbe xme xc s₁ B hml hv
  obtain ⟨rfl, hP, hN, hD, hA⟩ := hv
  have hret := B.returns
  have C : CallFix xp xm xc cX5_sumOf 4 xs ([.ref (a 0), .int (nI w)] : List Value).toArray wsX5_sumOf RX5 := ⟨B.exec, B.bytes, hml, findClass_of_methodNamed B.named, atoms_spec (ws := wsX5_sumOf) B.pre⟩
  have hlocks := B.notSynchronized
  obtain ⟨hx, hb, _, hown, hts⟩ := id C
  have hS : va_S A xs.heap xs.heap [] := va_S.rf
  have hl := lv_entry ([.ref (a 0), .int (nI w)]) (n := 4) (Nat.le_of_ble_eq_true rfl)
  rw [lg_entry_eq]
  generalize (lg_sl ([.ref (a 0), .int (nI w)]) ++ List.replicate (4 - (lg_sl ([.ref (a 0), .int (nI w)])).length) Slot.unset).toArray = ls at hl ⊢
  have hl : lv_has ls 4 [(0, .ref (a 0)), (1, .int (nI w))] := hl
  refine lv_iconst (v := nI 0) hx hb dX5_sumOf_0 (by decide) ?_
  refine lv_istore_n (lv' := [(2, .int (nI 0)), (0, .ref (a 0)), (1, .int (nI w))]) hx hb dX5_sumOf_1 rfl hl (by decide) rfl (fun ls hl => ?_)
  refine lv_iconst (v := nI 0) hx hb dX5_sumOf_2 (by decide) ?_
  refine lv_istore_n (lv' := [(3, .int (nI 0)), (2, .int (nI 0)), (0, .ref (a 0)), (1, .int (nI w))]) hx hb dX5_sumOf_3 rfl hl (by decide) rfl (fun ls hl => ?_)
  have L4 : ∀ (fuel : Nat), ∀ (i : Nat) (v : Nat) (g1 : Nat → Int32) (hmu : V 0 - i < fuel) (hi : i ≤ V 0) (hv : v = smF V w i) (H : Heap) (locs : List Loc) (_ : va_P D vwCl [((a 0), .inr (5, [.ref (a 1), .ref (a 2), .int (nI kt), .ref (a 3), .ref (a 4), .ref (a 5), .int (nI ln), .ref (a 6), .int (nI td)])), ((a 1), .inl (kA 0, 169, .inl (vI V))), ((a 2), .inl (kA 0, 1014, .inl (hs))), ((a 3), .inl (kA 0, 338, .inl (sl))), ((a 4), .inl (kA 2, 2, .inl (sv))), ((a 5), .inl (kA 0, 60, .inl (pd))), ((a 6), .inl (kA 0, 5, .inl (g1)))] H) (_ : va_D A [((a 0), .inr (5, [.ref (a 1), .ref (a 2), .int (nI kt), .ref (a 3), .ref (a 4), .ref (a 5), .int (nI ln), .ref (a 6), .int (nI td)])), ((a 1), .inl (kA 0, 169, .inl (vI V))), ((a 2), .inl (kA 0, 1014, .inl (hs))), ((a 3), .inl (kA 0, 338, .inl (sl))), ((a 4), .inl (kA 2, 2, .inl (sv))), ((a 5), .inl (kA 0, 60, .inl (pd))), ((a 6), .inl (kA 0, 5, .inl (g1)))]) (_ : va_S A xs.heap H locs) (ls : Array Slot) (_ : lv_has ls 4 [(3, .int (nI i)), (2, .int (nI v)), (0, .ref (a 0)), (1, .int (nI w))]), W xp xl xe (headSpec wsX5_sumOf { frames := 7, cells := 0, slots := 0, locals := 166 }).room xs xm ([.ref (a 0), .int (nI w)] : List Value).toArray xbe xme xc H locs 0 0 (MQ xbe (xQi D A (fun r u => r = nI (smF V w (V 0)) ∧ ∃ g : Nat → Int32, u = modW kA a V hs sl sv pd g kt ln td)) ([.ref (a 0), .int (nI w)] : List Value).toArray xs 0 0 A) (F0 xm 4 ls []) := by
    intro fuel
    induction fuel with
    | zero => intro i v g1 hmu; exact absurd hmu (Nat.not_lt_zero _)
    | succ fuel ih4 =>
      intro i v g1 hmu hi hv H locs hP hD hS ls hl
      refine lv_iload_n hx hb dX5_sumOf_4 rfl (lv_at hl 0 rfl) ?_
      refine lv_aload_n hx hb dX5_sumOf_5 rfl (lv_at hl 2 rfl) ?_
      refine xGet C hN hP 0 (j := 0) rfl rfl iX5_sumOf_X5 (by decide) kX5_sumOf_7 rfl rfl dX5_sumOf_6 ?_
      refine lv_iconst (v := nI 0) hx hb dX5_sumOf_9 (by decide) ?_
      refine xIald C hN hP 1 (j := 0) (v := nI (V 0)) rfl (by omega) (by decide) (rfl) dX5_sumOf_10 ?_
      refine xIcmpGe C (tgt := 74) (by omega) (by omega) dX5_sumOf_11 (by decide) (fun h_11 => ?_) (fun h_11 => ?_)
      · skip
        refine lv_iload_n hx hb dX5_sumOf_74 rfl (lv_at hl 1 rfl) ?_
        exact xRetI hx hb hret (v := nI v) (⟨by rw [hv, show i = V 0 by omega], g1, rfl⟩) hP hD hS dX5_sumOf_75 hlocks
      · skip
        refine lv_iload_n hx hb dX5_sumOf_14 rfl (lv_at hl 1 rfl) ?_
        refine lv_iload_n hx hb dX5_sumOf_15 rfl (lv_at hl 3 rfl) ?_
        refine lv_iconst (v := nI 5) hx hb dX5_sumOf_16 (by decide) ?_
        refine xIcmpNe C (tgt := 28) (by omega) (by decide) dX5_sumOf_17 (by decide) (fun h_17 => ?_) (fun h_17 => ?_)
        · skip
          refine lv_iload_n hx hb dX5_sumOf_28 rfl (lv_at hl 3 rfl) ?_
          refine lv_iconst (v := nI 4) hx hb dX5_sumOf_29 (by decide) ?_
          refine xIcmpNe C (tgt := 49) (by omega) (by decide) dX5_sumOf_30 (by decide) (fun h_30 => ?_) (fun h_30 => ?_)
          · skip
            refine lv_aload_n hx hb dX5_sumOf_49 rfl (lv_at hl 2 rfl) ?_
            refine lv_iload_n hx hb dX5_sumOf_50 rfl (lv_at hl 0 rfl) ?_
            refine lv_iconst (v := nI 1) hx hb dX5_sumOf_51 (by decide) ?_
            refine xVro C hN (As := [.int (nI i), .int (nI 1)]) (rest := [.int (nI v)]) (q0 := 0) (c_X5_of xl D kA a V hs sl sv pd g1 kt ln td i 1 (by omega) (by omega)) (cwV 2 hts gX5_sumOf_X5_of rfl rfl rfl (by decide +kernel) ⟨Nat.le_of_ble_eq_true rfl, Nat.le_of_ble_eq_true rfl⟩) hP rfl rfl rfl rfl hl.1 rfl (Nat.le_of_ble_eq_true rfl) dX5_sumOf_52 ⟨Nat.le_of_ble_eq_true rfl, Nat.le_of_ble_eq_true rfl⟩ ?_
            refine lv_iload_n hx hb dX5_sumOf_55 rfl (lv_at hl 3 rfl) ?_
            refine lv_iconst (v := nI 1) hx hb dX5_sumOf_56 (by decide) ?_
            refine xIsub C (by omega) dX5_sumOf_57 ?_
            refine xIcmpNe C (tgt := 65) (by have := hW i (by omega); omega) (by omega) dX5_sumOf_58 (by decide) (fun h_58 => ?_) (fun h_58 => ?_)
            · skip
              refine lv_iconst (v := nI 0) hx hb dX5_sumOf_65 (by decide) ?_
              refine xIadd C dX5_sumOf_66 ?_
              refine lv_istore_n (lv' := [(2, .int (nI (v + 0))), (3, .int (nI i)), (0, .ref (a 0)), (1, .int (nI w))]) hx hb dX5_sumOf_67 rfl hl (by decide) rfl (fun ls hl => ?_)
              refine xIinc C (kx := 1) (d := 1) (lv' := [(3, .int (nI (i + 1))), (2, .int (nI (v + 0))), (0, .ref (a 0)), (1, .int (nI w))]) dX5_sumOf_68 hl rfl (by decide) (by decide) rfl (fun ls hl => ?_)
              refine lv_goto (tgt := 4) hx hb dX5_sumOf_71 (by decide) ?_
              have hP : va_P D vwCl [((a 0), .inr (5, [.ref (a 1), .ref (a 2), .int (nI kt), .ref (a 3), .ref (a 4), .ref (a 5), .int (nI ln), .ref (a 6), .int (nI td)])), ((a 1), .inl (kA 0, 169, .inl (vI V))), ((a 2), .inl (kA 0, 1014, .inl (hs))), ((a 3), .inl (kA 0, 338, .inl (sl))), ((a 4), .inl (kA 2, 2, .inl (sv))), ((a 5), .inl (kA 0, 60, .inl (pd))), ((a 6), .inl (kA 0, 5, .inl (g1)))] H := hP
              exact ih4 (i + 1) (v + 0) g1 (by omega) (by omega) (by rw [hv]; first | exact sm_5 h_17 | exact sm_4 h_17 h_30 h_38 | exact sm_1t h_17 h_30 h_58 | exact sm_1f h_17 h_30 h_58) _ _ hP hD hS _ (lv_sub hl [0, 1, 2, 3] rfl)
            · skip
              refine lv_iconst (v := nI 1) hx hb dX5_sumOf_61 (by decide) ?_
              refine lv_goto (tgt := 66) hx hb dX5_sumOf_62 (by decide) ?_
              refine xIadd C dX5_sumOf_66 ?_
              refine lv_istore_n (lv' := [(2, .int (nI (v + 1))), (3, .int (nI i)), (0, .ref (a 0)), (1, .int (nI w))]) hx hb dX5_sumOf_67 rfl hl (by decide) rfl (fun ls hl => ?_)
              refine xIinc C (kx := 1) (d := 1) (lv' := [(3, .int (nI (i + 1))), (2, .int (nI (v + 1))), (0, .ref (a 0)), (1, .int (nI w))]) dX5_sumOf_68 hl rfl (by decide) (by decide) rfl (fun ls hl => ?_)
              refine lv_goto (tgt := 4) hx hb dX5_sumOf_71 (by decide) ?_
              have hP : va_P D vwCl [((a 0), .inr (5, [.ref (a 1), .ref (a 2), .int (nI kt), .ref (a 3), .ref (a 4), .ref (a 5), .int (nI ln), .ref (a 6), .int (nI td)])), ((a 1), .inl (kA 0, 169, .inl (vI V))), ((a 2), .inl (kA 0, 1014, .inl (hs))), ((a 3), .inl (kA 0, 338, .inl (sl))), ((a 4), .inl (kA 2, 2, .inl (sv))), ((a 5), .inl (kA 0, 60, .inl (pd))), ((a 6), .inl (kA 0, 5, .inl (g1)))] H := hP
              exact ih4 (i + 1) (v + 1) g1 (by omega) (by omega) (by rw [hv]; first | exact sm_5 h_17 | exact sm_4 h_17 h_30 h_38 | exact sm_1t h_17 h_30 h_58 | exact sm_1f h_17 h_30 h_58) _ _ hP hD hS _ (lv_sub hl [0, 1, 2, 3] rfl)
          · skip
            refine lv_aload_n hx hb dX5_sumOf_33 rfl (lv_at hl 2 rfl) ?_
            refine lv_iload_n hx hb dX5_sumOf_34 rfl (lv_at hl 0 rfl) ?_
            refine xWWi hS (va_runV (As := [.int (nI i)]) (rest := [.int (nI v)]) C (c_X5_isIdle xl D kA a V hs sl sv pd g1 kt ln td hV hW i (by omega) A) (cwV 1 hts gX5_sumOf_X5_isIdle rfl rfl rfl (by decide +kernel) ⟨Nat.le_of_ble_eq_true rfl, Nat.le_of_ble_eq_true rfl⟩) (xPreVw (q0 := 0) hN hP hD (xAll hS hA) rfl rfl rfl) rfl rfl hl.1 rfl (lv_room (Nat.le_of_ble_eq_true rfl)) dX5_sumOf_35 ⟨Nat.le_of_ble_eq_true rfl, Nat.le_of_ble_eq_true rfl⟩) (fun r_35 u_35 H locs hq_35 hP hD hS => ?_)
            obtain ⟨rfl, g_35, rfl⟩ := hq_35
            have hP : va_P D vwCl [((a 0), .inr (5, [.ref (a 1), .ref (a 2), .int (nI kt), .ref (a 3), .ref (a 4), .ref (a 5), .int (nI ln), .ref (a 6), .int (nI td)])), ((a 1), .inl (kA 0, 169, .inl (vI V))), ((a 2), .inl (kA 0, 1014, .inl (hs))), ((a 3), .inl (kA 0, 338, .inl (sl))), ((a 4), .inl (kA 2, 2, .inl (sv))), ((a 5), .inl (kA 0, 60, .inl (pd))), ((a 6), .inl (kA 0, 5, .inl (g_35)))] H := hP
            have hD : va_D A [((a 0), .inr (5, [.ref (a 1), .ref (a 2), .int (nI kt), .ref (a 3), .ref (a 4), .ref (a 5), .int (nI ln), .ref (a 6), .int (nI td)])), ((a 1), .inl (kA 0, 169, .inl (vI V))), ((a 2), .inl (kA 0, 1014, .inl (hs))), ((a 3), .inl (kA 0, 338, .inl (sl))), ((a 4), .inl (kA 2, 2, .inl (sv))), ((a 5), .inl (kA 0, 60, .inl (pd))), ((a 6), .inl (kA 0, 5, .inl (g_35)))] := hD
            refine xIfEqB C (tgt := 45) dX5_sumOf_38 (by decide) (fun h_38 => ?_) (fun h_38 => ?_)
            · skip
              refine lv_iconst (v := nI 0) hx hb dX5_sumOf_45 (by decide) ?_
              refine lv_goto (tgt := 66) hx hb dX5_sumOf_46 (by decide) ?_
              refine xIadd C dX5_sumOf_66 ?_
              refine lv_istore_n (lv' := [(2, .int (nI (v + 0))), (3, .int (nI i)), (0, .ref (a 0)), (1, .int (nI w))]) hx hb dX5_sumOf_67 rfl hl (by decide) rfl (fun ls hl => ?_)
              refine xIinc C (kx := 1) (d := 1) (lv' := [(3, .int (nI (i + 1))), (2, .int (nI (v + 0))), (0, .ref (a 0)), (1, .int (nI w))]) dX5_sumOf_68 hl rfl (by decide) (by decide) rfl (fun ls hl => ?_)
              refine lv_goto (tgt := 4) hx hb dX5_sumOf_71 (by decide) ?_
              have hP : va_P D vwCl [((a 0), .inr (5, [.ref (a 1), .ref (a 2), .int (nI kt), .ref (a 3), .ref (a 4), .ref (a 5), .int (nI ln), .ref (a 6), .int (nI td)])), ((a 1), .inl (kA 0, 169, .inl (vI V))), ((a 2), .inl (kA 0, 1014, .inl (hs))), ((a 3), .inl (kA 0, 338, .inl (sl))), ((a 4), .inl (kA 2, 2, .inl (sv))), ((a 5), .inl (kA 0, 60, .inl (pd))), ((a 6), .inl (kA 0, 5, .inl (g_35)))] H := hP
              exact ih4 (i + 1) (v + 0) g_35 (by omega) (by omega) (by rw [hv]; first | exact sm_5 h_17 | exact sm_4 h_17 h_30 h_38 | exact sm_1t h_17 h_30 h_58 | exact sm_1f h_17 h_30 h_58) _ _ hP hD hS _ (lv_sub hl [0, 1, 2, 3] rfl)
            · skip
              refine lv_iconst (v := nI 1) hx hb dX5_sumOf_41 (by decide) ?_
              refine lv_goto (tgt := 66) hx hb dX5_sumOf_42 (by decide) ?_
              refine xIadd C dX5_sumOf_66 ?_
              refine lv_istore_n (lv' := [(2, .int (nI (v + 1))), (3, .int (nI i)), (0, .ref (a 0)), (1, .int (nI w))]) hx hb dX5_sumOf_67 rfl hl (by decide) rfl (fun ls hl => ?_)
              refine xIinc C (kx := 1) (d := 1) (lv' := [(3, .int (nI (i + 1))), (2, .int (nI (v + 1))), (0, .ref (a 0)), (1, .int (nI w))]) dX5_sumOf_68 hl rfl (by decide) (by decide) rfl (fun ls hl => ?_)
              refine lv_goto (tgt := 4) hx hb dX5_sumOf_71 (by decide) ?_
              have hP : va_P D vwCl [((a 0), .inr (5, [.ref (a 1), .ref (a 2), .int (nI kt), .ref (a 3), .ref (a 4), .ref (a 5), .int (nI ln), .ref (a 6), .int (nI td)])), ((a 1), .inl (kA 0, 169, .inl (vI V))), ((a 2), .inl (kA 0, 1014, .inl (hs))), ((a 3), .inl (kA 0, 338, .inl (sl))), ((a 4), .inl (kA 2, 2, .inl (sv))), ((a 5), .inl (kA 0, 60, .inl (pd))), ((a 6), .inl (kA 0, 5, .inl (g_35)))] H := hP
              exact ih4 (i + 1) (v + 1) g_35 (by omega) (by omega) (by rw [hv]; first | exact sm_5 h_17 | exact sm_4 h_17 h_30 h_38 | exact sm_1t h_17 h_30 h_58 | exact sm_1f h_17 h_30 h_58) _ _ hP hD hS _ (lv_sub hl [0, 1, 2, 3] rfl)
        · skip
          refine lv_aload_n hx hb dX5_sumOf_20 rfl (lv_at hl 2 rfl) ?_
          refine lv_iload_n hx hb dX5_sumOf_21 rfl (lv_at hl 0 rfl) ?_
          refine xVro C hN (As := [.int (nI i)]) (rest := [.int (nI v)]) (q0 := 0) (c_X5_oddsOf xl D kA a V hs sl sv pd g1 kt ln td hV hW i (by omega)) (cwV 1 hts gX5_sumOf_X5_oddsOf rfl rfl rfl (by decide +kernel) ⟨Nat.le_of_ble_eq_true rfl, Nat.le_of_ble_eq_true rfl⟩) hP rfl rfl rfl rfl hl.1 rfl (Nat.le_of_ble_eq_true rfl) dX5_sumOf_22 ⟨Nat.le_of_ble_eq_true rfl, Nat.le_of_ble_eq_true rfl⟩ ?_
          refine lv_goto (tgt := 66) hx hb dX5_sumOf_25 (by decide) ?_
          refine xIadd C dX5_sumOf_66 ?_
          refine lv_istore_n (lv' := [(2, .int (nI (v + (cntN (V 0) (fun j => oddT (TV V) i j))))), (3, .int (nI i)), (0, .ref (a 0)), (1, .int (nI w))]) hx hb dX5_sumOf_67 rfl hl (by decide) rfl (fun ls hl => ?_)
          refine xIinc C (kx := 1) (d := 1) (lv' := [(3, .int (nI (i + 1))), (2, .int (nI (v + (cntN (V 0) (fun j => oddT (TV V) i j))))), (0, .ref (a 0)), (1, .int (nI w))]) dX5_sumOf_68 hl rfl (by decide) (by decide) rfl (fun ls hl => ?_)
          refine lv_goto (tgt := 4) hx hb dX5_sumOf_71 (by decide) ?_
          have hP : va_P D vwCl [((a 0), .inr (5, [.ref (a 1), .ref (a 2), .int (nI kt), .ref (a 3), .ref (a 4), .ref (a 5), .int (nI ln), .ref (a 6), .int (nI td)])), ((a 1), .inl (kA 0, 169, .inl (vI V))), ((a 2), .inl (kA 0, 1014, .inl (hs))), ((a 3), .inl (kA 0, 338, .inl (sl))), ((a 4), .inl (kA 2, 2, .inl (sv))), ((a 5), .inl (kA 0, 60, .inl (pd))), ((a 6), .inl (kA 0, 5, .inl (g1)))] H := hP
          exact ih4 (i + 1) (v + (cntN (V 0) (fun j => oddT (TV V) i j))) g1 (by omega) (by omega) (by rw [hv]; first | exact sm_5 h_17 | exact sm_4 h_17 h_30 h_38 | exact sm_1t h_17 h_30 h_58 | exact sm_1f h_17 h_30 h_58) _ _ hP hD hS _ (lv_sub hl [0, 1, 2, 3] rfl)
  exact L4 _ 0 0 sg (Nat.lt_succ_self _) (by omega) (sm_0 V w) _ _ hP hD hS _ (lv_sub hl [0, 1, 2, 3] rfl)

set_option maxHeartbeats 8000000 in
set_option maxRecDepth 100000 in
theorem c_X5_mayDo (xl : Launch) (D : va_G) (kA : Nat → ClassId) (a : Nat → Nat) (V : Nat → Nat) (hs sl sv pd sg : Nat → Int32) (kt ln td : Nat) (hV : V 0 ≤ 24) (hW : WfT (V 0) (TV V)) (i : Nat) (hi : i < 10) (hc : V (129 + 4 * i) < 5) (hr : V (129 + 4 * i + 1) < 10) (A : Nat → Prop) : Met xl yX5_mayDo wsX5_mayDo { frames := 6, cells := 0, slots := 0, locals := 143 } (va_Pc [.ref (a 0), .int (nI i)] (xPw D kA A [((a 0), .inr (5, [.ref (a 1), .ref (a 2), .int (nI kt), .ref (a 3), .ref (a 4), .ref (a 5), .int (nI ln), .ref (a 6), .int (nI td)])), ((a 1), .inl (kA 0, 169, .inl (vI V))), ((a 2), .inl (kA 0, 1014, .inl (hs))), ((a 3), .inl (kA 0, 338, .inl (sl))), ((a 4), .inl (kA 2, 2, .inl (sv))), ((a 5), .inl (kA 0, 60, .inl (pd))), ((a 6), .inl (kA 0, 5, .inl (sg)))])) (xQi D A (fun r u => r = nI (mdM V i) ∧ ∃ g : Nat → Int32, u = modW kA a V hs sl sv pd g kt ln td)) 0 0 A := by
  refine Met.ofW (cc := cX5_mayDo) (maxL := 4) (ret := (some .int)) (by decide) rfl ?_
  intro xp xe xs xm args xbe xme xc s₁ B hml hv
  obtain ⟨rfl, hP, hN, hD, hA⟩ := hv
  have hret := B.returns
  have C : CallFix xp xm xc cX5_mayDo 4 xs ([.ref (a 0), .int (nI i)] : List Value).toArray wsX5_mayDo RX5 := ⟨B.exec, B.bytes, hml, findClass_of_methodNamed B.named, atoms_spec (ws := wsX5_mayDo) B.pre⟩
  have hlocks := B.notSynchronized
  obtain ⟨hx, hb, _, hown, hts⟩ := id C
  have hS : va_S A xs.heap xs.heap [] := va_S.rf
  have hl := lv_entry ([.ref (a 0), .int (nI i)]) (n := 4) (Nat.le_of_ble_eq_true rfl)
  rw [lg_entry_eq]
  generalize (lg_sl ([.ref (a 0), .int (nI i)]) ++ List.replicate (4 - (lg_sl ([.ref (a 0), .int (nI i)])).length) Slot.unset).toArray = ls at hl ⊢
  have hl : lv_has ls 4 [(0, .ref (a 0)), (1, .int (nI i))] := hl
  refine lv_iconst (v := nI 0) hx hb dX5_mayDo_0 (by decide) ?_
  refine lv_istore_n (lv' := [(2, .int (nI 0)), (0, .ref (a 0)), (1, .int (nI i))]) hx hb dX5_mayDo_1 rfl hl (by decide) rfl (fun ls hl => ?_)
  refine lv_iconst (v := nI 0) hx hb dX5_mayDo_2 (by decide) ?_
  refine lv_istore_n (lv' := [(3, .int (nI 0)), (2, .int (nI 0)), (0, .ref (a 0)), (1, .int (nI i))]) hx hb dX5_mayDo_3 rfl hl (by decide) rfl (fun ls hl => ?_)
  have L4 : ∀ (fuel : Nat), ∀ (d : Nat) (g1 : Nat → Int32) (hmu : 6 - d < fuel) (hd : d ≤ 6) (H : Heap) (locs : List Loc) (_ : va_P D vwCl [((a 0), .inr (5, [.ref (a 1), .ref (a 2), .int (nI kt), .ref (a 3), .ref (a 4), .ref (a 5), .int (nI ln), .ref (a 6), .int (nI td)])), ((a 1), .inl (kA 0, 169, .inl (vI V))), ((a 2), .inl (kA 0, 1014, .inl (hs))), ((a 3), .inl (kA 0, 338, .inl (sl))), ((a 4), .inl (kA 2, 2, .inl (sv))), ((a 5), .inl (kA 0, 60, .inl (pd))), ((a 6), .inl (kA 0, 5, .inl (g1)))] H) (_ : va_D A [((a 0), .inr (5, [.ref (a 1), .ref (a 2), .int (nI kt), .ref (a 3), .ref (a 4), .ref (a 5), .int (nI ln), .ref (a 6), .int (nI td)])), ((a 1), .inl (kA 0, 169, .inl (vI V))), ((a 2), .inl (kA 0, 1014, .inl (hs))), ((a 3), .inl (kA 0, 338, .inl (sl))), ((a 4), .inl (kA 2, 2, .inl (sv))), ((a 5), .inl (kA 0, 60, .inl (pd))), ((a 6), .inl (kA 0, 5, .inl (g1)))]) (_ : va_S A xs.heap H locs) (ls : Array Slot) (_ : lv_has ls 4 [(3, .int (nI d)), (2, .int (nI (maskN d (mdP V i)))), (0, .ref (a 0)), (1, .int (nI i))]), W xp xl xe (headSpec wsX5_mayDo { frames := 6, cells := 0, slots := 0, locals := 143 }).room xs xm ([.ref (a 0), .int (nI i)] : List Value).toArray xbe xme xc H locs 0 0 (MQ xbe (xQi D A (fun r u => r = nI (mdM V i) ∧ ∃ g : Nat → Int32, u = modW kA a V hs sl sv pd g kt ln td)) ([.ref (a 0), .int (nI i)] : List Value).toArray xs 0 0 A) (F0 xm 4 ls []) := by
    intro fuel
    induction fuel with
    | zero => intro d g1 hmu; exact absurd hmu (Nat.not_lt_zero _)
    | succ fuel ih4 =>
      intro d g1 hmu hd H locs hP hD hS ls hl
      refine lv_iload_n hx hb dX5_mayDo_4 rfl (lv_at hl 0 rfl) ?_
      refine lv_bipush (v := nI 6) hx hb dX5_mayDo_5 (by decide) ?_
      refine xIcmpGe C (tgt := 54) (by omega) (by decide) dX5_mayDo_7 (by decide) (fun h_7 => ?_) (fun h_7 => ?_)
      · skip
        refine lv_iload_n hx hb dX5_mayDo_54 rfl (lv_at hl 1 rfl) ?_
        exact xRetI hx hb hret (v := nI (maskN d (mdP V i))) (⟨by rw [show d = 6 by omega]; rfl, g1, rfl⟩) hP hD hS dX5_mayDo_55 hlocks
      · skip
        refine lv_iload_n hx hb dX5_mayDo_10 rfl (lv_at hl 1 rfl) ?_
        refine lv_aload_n hx hb dX5_mayDo_11 rfl (lv_at hl 2 rfl) ?_
        refine xGet C hN hP 0 (j := 0) rfl rfl iX5_mayDo_X5 (by decide) kX5_mayDo_7 rfl rfl dX5_mayDo_12 ?_
        refine lv_iload_n hx hb dX5_mayDo_15 rfl (lv_at hl 3 rfl) ?_
        refine lv_iconst (v := nI 1) hx hb dX5_mayDo_16 (by decide) ?_
        refine xSro C hN (As := [.int (nI i), .int (nI 1)]) (rest := [.ref (a 1), .int (nI (maskN d (mdP V i)))]) (c_X5_ofGuild xl D kA i 1) (va_cwS 2 hts gX5_mayDo_X5_ofGuild rfl rfl rfl (by decide +kernel) ⟨Nat.le_of_ble_eq_true rfl, Nat.le_of_ble_eq_true rfl⟩) (hP.sub (ws' := []) [] rfl) rfl hl.1 rfl (Nat.le_of_ble_eq_true rfl) dX5_mayDo_17 ⟨Nat.le_of_ble_eq_true rfl, Nat.le_of_ble_eq_true rfl⟩ ?_
        refine xIald C hN hP 1 (j := 129 + 4 * i + 1) (v := nI (V (129 + 4 * i + 1))) rfl (by omega) (by decide) (rfl) dX5_mayDo_20 ?_
        refine lv_aload_n hx hb dX5_mayDo_21 rfl (lv_at hl 2 rfl) ?_
        refine lv_aload_n hx hb dX5_mayDo_22 rfl (lv_at hl 2 rfl) ?_
        refine xGet C hN hP 0 (j := 0) rfl rfl iX5_mayDo_X5 (by decide) kX5_mayDo_7 rfl rfl dX5_mayDo_23 ?_
        refine lv_iload_n hx hb dX5_mayDo_26 rfl (lv_at hl 3 rfl) ?_
        refine lv_iconst (v := nI 0) hx hb dX5_mayDo_27 (by decide) ?_
        refine xSro C hN (As := [.int (nI i), .int (nI 0)]) (rest := [.ref (a 1), .ref (a 0), .int (nI (V (129 + 4 * i + 1))), .int (nI (maskN d (mdP V i)))]) (c_X5_ofGuild xl D kA i 0) (va_cwS 2 hts gX5_mayDo_X5_ofGuild rfl rfl rfl (by decide +kernel) ⟨Nat.le_of_ble_eq_true rfl, Nat.le_of_ble_eq_true rfl⟩) (hP.sub (ws' := []) [] rfl) rfl hl.1 rfl (Nat.le_of_ble_eq_true rfl) dX5_mayDo_28 ⟨Nat.le_of_ble_eq_true rfl, Nat.le_of_ble_eq_true rfl⟩ ?_
        refine xIald C hN hP 1 (j := 129 + 4 * i + 0) (v := nI (V (129 + 4 * i + 0))) rfl (by omega) (by decide) (rfl) dX5_mayDo_31 ?_
        refine lv_iload_n hx hb dX5_mayDo_32 rfl (lv_at hl 0 rfl) ?_
        refine xWWi hS (va_runV (As := [.int (nI (V (129 + 4 * i + 0))), .int (nI d)]) (rest := [.int (nI (V (129 + 4 * i + 1))), .int (nI (maskN d (mdP V i)))]) C (c_X5_leastNow xl D kA a V hs sl sv pd g1 kt ln td hV hW (V (129 + 4 * i + 0)) d hc (by omega) A) (cwV 2 hts gX5_mayDo_X5_leastNow rfl rfl rfl (by decide +kernel) ⟨Nat.le_of_ble_eq_true rfl, Nat.le_of_ble_eq_true rfl⟩) (xPreVw (q0 := 0) hN hP hD (xAll hS hA) rfl rfl rfl) rfl rfl hl.1 rfl (lv_room (Nat.le_of_ble_eq_true rfl)) dX5_mayDo_33 ⟨Nat.le_of_ble_eq_true rfl, Nat.le_of_ble_eq_true rfl⟩) (fun r_33 u_33 H locs hq_33 hP hD hS => ?_)
        obtain ⟨rfl, g_33, rfl, hg_33⟩ := hq_33
        have hP : va_P D vwCl [((a 0), .inr (5, [.ref (a 1), .ref (a 2), .int (nI kt), .ref (a 3), .ref (a 4), .ref (a 5), .int (nI ln), .ref (a 6), .int (nI td)])), ((a 1), .inl (kA 0, 169, .inl (vI V))), ((a 2), .inl (kA 0, 1014, .inl (hs))), ((a 3), .inl (kA 0, 338, .inl (sl))), ((a 4), .inl (kA 2, 2, .inl (sv))), ((a 5), .inl (kA 0, 60, .inl (pd))), ((a 6), .inl (kA 0, 5, .inl (g_33)))] H := hP
        have hD : va_D A [((a 0), .inr (5, [.ref (a 1), .ref (a 2), .int (nI kt), .ref (a 3), .ref (a 4), .ref (a 5), .int (nI ln), .ref (a 6), .int (nI td)])), ((a 1), .inl (kA 0, 169, .inl (vI V))), ((a 2), .inl (kA 0, 1014, .inl (hs))), ((a 3), .inl (kA 0, 338, .inl (sl))), ((a 4), .inl (kA 2, 2, .inl (sv))), ((a 5), .inl (kA 0, 60, .inl (pd))), ((a 6), .inl (kA 0, 5, .inl (g_33)))] := hD
        refine xTop (y := nI (lstT (V 0) (TV V) (V (129 + 4 * i)) d)) (congrArg nI (lstM_now hW (by omega))) ?_
        refine xIcmpLt C (tgt := 45) (by omega) (by have := lstM_le (c := V (129 + 4 * i)) (d := d) (bu := -6) (ly := -6) (se := 0) hW; rw [lstM_now hW (by omega)] at this; omega) dX5_mayDo_36 (by decide) (fun h_36 => ?_) (fun h_36 => ?_)
        · skip
          refine lv_iconst (v := nI 0) hx hb dX5_mayDo_45 (by decide) ?_
          refine lv_ior hx hb dX5_mayDo_46 ?_
          refine xTop (y := nI (maskN (d + 1) (mdP V i))) (by first | exact md_t (by omega) h_36 | exact md_f h_36) ?_
          refine lv_istore_n (lv' := [(2, .int (nI (maskN (d + 1) (mdP V i)))), (3, .int (nI d)), (0, .ref (a 0)), (1, .int (nI i))]) hx hb dX5_mayDo_47 rfl hl (by decide) rfl (fun ls hl => ?_)
          refine xIinc C (kx := 1) (d := 1) (lv' := [(3, .int (nI (d + 1))), (2, .int (nI (maskN (d + 1) (mdP V i)))), (0, .ref (a 0)), (1, .int (nI i))]) dX5_mayDo_48 hl rfl (by decide) (by decide) rfl (fun ls hl => ?_)
          refine lv_goto (tgt := 4) hx hb dX5_mayDo_51 (by decide) ?_
          have hP : va_P D vwCl [((a 0), .inr (5, [.ref (a 1), .ref (a 2), .int (nI kt), .ref (a 3), .ref (a 4), .ref (a 5), .int (nI ln), .ref (a 6), .int (nI td)])), ((a 1), .inl (kA 0, 169, .inl (vI V))), ((a 2), .inl (kA 0, 1014, .inl (hs))), ((a 3), .inl (kA 0, 338, .inl (sl))), ((a 4), .inl (kA 2, 2, .inl (sv))), ((a 5), .inl (kA 0, 60, .inl (pd))), ((a 6), .inl (kA 0, 5, .inl (g_33)))] H := hP
          exact ih4 (d + 1) g_33 (by omega) (by omega) _ _ hP hD hS _ (lv_sub hl [0, 1, 2, 3] rfl)
        · skip
          refine lv_iconst (v := nI 1) hx hb dX5_mayDo_39 (by decide) ?_
          refine lv_iload_n hx hb dX5_mayDo_40 rfl (lv_at hl 0 rfl) ?_
          refine lv_ishl hx hb dX5_mayDo_41 ?_
          refine lv_goto (tgt := 46) hx hb dX5_mayDo_42 (by decide) ?_
          refine lv_ior hx hb dX5_mayDo_46 ?_
          refine xTop (y := nI (maskN (d + 1) (mdP V i))) (by first | exact md_t (by omega) h_36 | exact md_f h_36) ?_
          refine lv_istore_n (lv' := [(2, .int (nI (maskN (d + 1) (mdP V i)))), (3, .int (nI d)), (0, .ref (a 0)), (1, .int (nI i))]) hx hb dX5_mayDo_47 rfl hl (by decide) rfl (fun ls hl => ?_)
          refine xIinc C (kx := 1) (d := 1) (lv' := [(3, .int (nI (d + 1))), (2, .int (nI (maskN (d + 1) (mdP V i)))), (0, .ref (a 0)), (1, .int (nI i))]) dX5_mayDo_48 hl rfl (by decide) (by decide) rfl (fun ls hl => ?_)
          refine lv_goto (tgt := 4) hx hb dX5_mayDo_51 (by decide) ?_
          have hP : va_P D vwCl [((a 0), .inr (5, [.ref (a 1), .ref (a 2), .int (nI kt), .ref (a 3), .ref (a 4), .ref (a 5), .int (nI ln), .ref (a 6), .int (nI td)])), ((a 1), .inl (kA 0, 169, .inl (vI V))), ((a 2), .inl (kA 0, 1014, .inl (hs))), ((a 3), .inl (kA 0, 338, .inl (sl))), ((a 4), .inl (kA 2, 2, .inl (sv))), ((a 5), .inl (kA 0, 60, .inl (pd))), ((a 6), .inl (kA 0, 5, .inl (g_33)))] H := hP
          exact ih4 (d + 1) g_33 (by omega) (by omega) _ _ hP hD hS _ (lv_sub hl [0, 1, 2, 3] rfl)
  exact L4 _ 0 sg (Nat.lt_succ_self _) (by omega) _ _ hP hD hS _ (lv_sub hl [0, 1, 2, 3] rfl)

set_option maxHeartbeats 8000000 in
set_option maxRecDepth 100000 in
theorem c_X5_next (xl : Launch) (D : va_G) (kA : Nat → ClassId) (a : Nat → Nat) (V : Nat → Nat) (hs sl sv pd sg : Nat → Int32) (kt ln td : Nat) (i : Nat) (hi : i < 1000) (P : Nat → Nat) (hpd : relP pd ln P) (hm : ln ≤ 60) (hwP : wfP ln P) : Met xl yX5_next wsX5_next { frames := 0, cells := 0, slots := 0, locals := 0 } (va_Pc [.ref (a 0), .int (nI i)] (xPr D kA [((a 0), .inr (5, [.ref (a 1), .ref (a 2), .int (nI kt), .ref (a 3), .ref (a 4), .ref (a 5), .int (nI ln), .ref (a 6), .int (nI td)])), ((a 1), .inl (kA 0, 169, .inl (vI V))), ((a 2), .inl (kA 0, 1014, .inl (hs))), ((a 3), .inl (kA 0, 338, .inl (sl))), ((a 4), .inl (kA 2, 2, .inl (sv))), ((a 5), .inl (kA 0, 60, .inl (pd))), ((a 6), .inl (kA 0, 5, .inl (sg)))])) (vp_Si (fun rr => rr = nI (sgn ln P i))) 0 0 (fun _ => False) := by
  refine Met.ofW (cc := cX5_next) (maxL := 2) (ret := (some .int)) (by decide) rfl ?_
  intro xp xe xs xm args xbe xme xc s₁ B hml hv
  obtain ⟨rfl, hP, hN⟩ := hv
  have hret := B.returns
  have C : CallFix xp xm xc cX5_next 2 xs ([.ref (a 0), .int (nI i)] : List Value).toArray wsX5_next RX5 := ⟨B.exec, B.bytes, hml, findClass_of_methodNamed B.named, atoms_spec (ws := wsX5_next) B.pre⟩
  have hlocks := B.notSynchronized
  obtain ⟨hx, hb, _, hown, hts⟩ := id C
  have hl := lv_entry ([.ref (a 0), .int (nI i)]) (n := 2) (Nat.le_of_ble_eq_true rfl)
  rw [lg_entry_eq]
  generalize (lg_sl ([.ref (a 0), .int (nI i)]) ++ List.replicate (2 - (lg_sl ([.ref (a 0), .int (nI i)])).length) Slot.unset).toArray = ls at hl ⊢
  have hl : lv_has ls 2 [(0, .ref (a 0)), (1, .int (nI i))] := hl
  refine lv_iload_n hx hb dX5_next_0 rfl (lv_at hl 1 rfl) ?_
  refine lv_aload_n hx hb dX5_next_1 rfl (lv_at hl 0 rfl) ?_
  refine xGet C hN hP 0 (j := 6) rfl rfl iX5_next_X5 (by decide) kX5_next_118 rfl rfl dX5_next_2 ?_
  refine xIcmpGe C (tgt := 17) (by omega) (by omega) dX5_next_5 (by decide) (fun h_5 => ?_) (fun h_5 => ?_)
  · skip
    refine lv_iconst (v := nI 0) hx hb dX5_next_17 (by decide) ?_
    exact xRoI hx hb hret (v := nI 0) (by unfold sgn; first | rw [if_pos h_5] | rw [if_neg (by omega)]) dX5_next_18 hlocks
  · skip
    refine lv_aload_n hx hb dX5_next_8 rfl (lv_at hl 0 rfl) ?_
    refine xGet C hN hP 0 (j := 5) rfl rfl iX5_next_X5 (by decide) kX5_next_23 rfl rfl dX5_next_9 ?_
    refine lv_iload_n hx hb dX5_next_12 rfl (lv_at hl 1 rfl) ?_
    refine xIald C hN hP 5 (j := i) (v := nI (P i)) rfl (by omega) (by decide) (hpd i h_5) dX5_next_13 ?_
    refine lv_goto (tgt := 18) hx hb dX5_next_14 (by decide) ?_
    exact xRoI hx hb hret (v := nI (P i)) (by unfold sgn; first | rw [if_pos h_5] | rw [if_neg (by omega)]) dX5_next_18 hlocks

set_option maxHeartbeats 8000000 in
set_option maxRecDepth 100000 in
theorem c_X5_kindFor (xl : Launch) (D : va_G) (kA : Nat → ClassId) (c : Nat) (hc : c < 128) : Met xl yX5_kindFor wsX5_kindFor { frames := 0, cells := 0, slots := 0, locals := 0 } (va_Pc [.int (nI c)] (xPr D kA [])) (vp_Si (fun rr => rr = kfI c)) 0 0 (fun _ => False) := by
  refine Met.ofW (cc := cX5_kindFor) (maxL := 1) (ret := (some .int)) (by decide) rfl ?_
  intro xp xe xs xm args xbe xme xc s₁ B hml hv
  obtain ⟨rfl, hP, hN⟩ := hv
  have hret := B.returns
  have C : CallFix xp xm xc cX5_kindFor 1 xs ([.int (nI c)] : List Value).toArray wsX5_kindFor RX5 := ⟨B.exec, B.bytes, hml, findClass_of_methodNamed B.named, atoms_spec (ws := wsX5_kindFor) B.pre⟩
  have hlocks := B.notSynchronized
  obtain ⟨hx, hb, _, hown, hts⟩ := id C
  have hl := lv_entry ([.int (nI c)]) (n := 1) (Nat.le_of_ble_eq_true rfl)
  rw [lg_entry_eq]
  generalize (lg_sl ([.int (nI c)]) ++ List.replicate (1 - (lg_sl ([.int (nI c)])).length) Slot.unset).toArray = ls at hl ⊢
  have hl : lv_has ls 1 [(0, .int (nI c))] := hl
  refine lv_iload_n hx hb dX5_kindFor_0 rfl (lv_at hl 0 rfl) ?_
  refine lv_bipush (v := nI 112) hx hb dX5_kindFor_1 (by decide) ?_
  refine xIcmpNe C (tgt := 10) (by omega) (by decide) dX5_kindFor_3 (by decide) (fun h_3 => ?_) (fun h_3 => ?_)
  · skip
    refine lv_iload_n hx hb dX5_kindFor_10 rfl (lv_at hl 0 rfl) ?_
    refine lv_bipush (v := nI 98) hx hb dX5_kindFor_11 (by decide) ?_
    refine xIcmpNe C (tgt := 20) (by omega) (by decide) dX5_kindFor_13 (by decide) (fun h_13 => ?_) (fun h_13 => ?_)
    · skip
      refine lv_iload_n hx hb dX5_kindFor_20 rfl (lv_at hl 0 rfl) ?_
      refine lv_bipush (v := nI 119) hx hb dX5_kindFor_21 (by decide) ?_
      refine xIcmpNe C (tgt := 30) (by omega) (by decide) dX5_kindFor_23 (by decide) (fun h_23 => ?_) (fun h_23 => ?_)
      · skip
        refine lv_bipush (v := (-6)) hx hb dX5_kindFor_30 (by decide) ?_
        exact xRoI hx hb hret (v := (-6)) (by simp [kfI, kindK, h_3, h_13, h_23]) dX5_kindFor_32 hlocks
      · skip
        refine lv_iconst (v := nI 2) hx hb dX5_kindFor_26 (by decide) ?_
        refine lv_goto (tgt := 32) hx hb dX5_kindFor_27 (by decide) ?_
        exact xRoI hx hb hret (v := nI 2) (by simp [kfI, kindK, h_3, h_13, h_23]) dX5_kindFor_32 hlocks
    · skip
      refine lv_iconst (v := nI 1) hx hb dX5_kindFor_16 (by decide) ?_
      refine lv_goto (tgt := 32) hx hb dX5_kindFor_17 (by decide) ?_
      exact xRoI hx hb hret (v := nI 1) (by simp [kfI, kindK, h_3, h_13]) dX5_kindFor_32 hlocks
  · skip
    refine lv_iconst (v := nI 0) hx hb dX5_kindFor_6 (by decide) ?_
    refine lv_goto (tgt := 32) hx hb dX5_kindFor_7 (by decide) ?_
    exact xRoI hx hb hret (v := nI 0) (by simp [kfI, kindK, h_3]) dX5_kindFor_32 hlocks

set_option maxHeartbeats 8000000 in
set_option maxRecDepth 100000 in
theorem c_X5_right (xl : Launch) (D : va_G) (kA : Nat → ClassId) (a : Nat → Nat) (V : Nat → Nat) (hs sl sv pd sg : Nat → Int32) (kt ln td : Nat) (p : Nat) (hp : p ≤ 100) (P : Nat → Nat) (hpd : relP pd ln P) (hm : ln ≤ 60) (hwP : wfP ln P) : Met xl yX5_right wsX5_right { frames := 1, cells := 0, slots := 0, locals := 22 } (va_Pc [.ref (a 0), .int (nI p)] (xPr D kA [((a 0), .inr (5, [.ref (a 1), .ref (a 2), .int (nI kt), .ref (a 3), .ref (a 4), .ref (a 5), .int (nI ln), .ref (a 6), .int (nI td)])), ((a 1), .inl (kA 0, 169, .inl (vI V))), ((a 2), .inl (kA 0, 1014, .inl (hs))), ((a 3), .inl (kA 0, 338, .inl (sl))), ((a 4), .inl (kA 2, 2, .inl (sv))), ((a 5), .inl (kA 0, 60, .inl (pd))), ((a 6), .inl (kA 0, 5, .inl (sg)))])) (vp_Si (fun rr => rr = nI (rgt ln P p))) 0 0 (fun _ => False) := by
  refine Met.ofW (cc := cX5_right) (maxL := 3) (ret := (some .int)) (by decide) rfl ?_
  intro xp xe xs xm args xbe xme xc s₁ B hml hv
  obtain ⟨rfl, hP, hN⟩ := hv
  have hret := B.returns
  have C : CallFix xp xm xc cX5_right 3 xs ([.ref (a 0), .int (nI p)] : List Value).toArray wsX5_right RX5 := ⟨B.exec, B.bytes, hml, findClass_of_methodNamed B.named, atoms_spec (ws := wsX5_right) B.pre⟩
  have hlocks := B.notSynchronized
  obtain ⟨hx, hb, _, hown, hts⟩ := id C
  have hl := lv_entry ([.ref (a 0), .int (nI p)]) (n := 3) (Nat.le_of_ble_eq_true rfl)
  rw [lg_entry_eq]
  generalize (lg_sl ([.ref (a 0), .int (nI p)]) ++ List.replicate (3 - (lg_sl ([.ref (a 0), .int (nI p)])).length) Slot.unset).toArray = ls at hl ⊢
  have hl : lv_has ls 3 [(0, .ref (a 0)), (1, .int (nI p))] := hl
  refine lv_aload_n hx hb dX5_right_0 rfl (lv_at hl 0 rfl) ?_
  refine lv_iload_n hx hb dX5_right_1 rfl (lv_at hl 1 rfl) ?_
  refine lv_iconst (v := nI 1) hx hb dX5_right_2 (by decide) ?_
  refine xIadd C dX5_right_3 ?_
  refine xVro C hN (As := [.int (nI (p + 1))]) (rest := []) (q0 := 0) (c_X5_next xl D kA a V hs sl sv pd sg kt ln td (p + 1) (by omega) P hpd hm hwP) (cwV 1 hts gX5_right_X5_next rfl rfl rfl (by decide +kernel) ⟨Nat.le_of_ble_eq_true rfl, Nat.le_of_ble_eq_true rfl⟩) hP rfl rfl rfl rfl hl.1 rfl (Nat.le_of_ble_eq_true rfl) dX5_right_4 ⟨Nat.le_of_ble_eq_true rfl, Nat.le_of_ble_eq_true rfl⟩ ?_
  refine xSro C hN (As := [.int (nI (sgn ln P (p + 1)))]) (rest := []) (c_X5_kindFor xl D kA (sgn ln P (p + 1)) (sgn_lt hwP (p + 1))) (va_cwS 1 hts gX5_right_X5_kindFor rfl rfl rfl (by decide +kernel) ⟨Nat.le_of_ble_eq_true rfl, Nat.le_of_ble_eq_true rfl⟩) (hP.sub (ws' := []) [] rfl) rfl hl.1 rfl (Nat.le_of_ble_eq_true rfl) dX5_right_7 ⟨Nat.le_of_ble_eq_true rfl, Nat.le_of_ble_eq_true rfl⟩ ?_
  refine lv_istore_n (lv' := [(2, .int (kfI (sgn ln P (p + 1)))), (0, .ref (a 0)), (1, .int (nI p))]) hx hb dX5_right_10 rfl hl (by decide) rfl (fun ls hl => ?_)
  refine lv_aload_n hx hb dX5_right_11 rfl (lv_at hl 1 rfl) ?_
  refine lv_iload_n hx hb dX5_right_12 rfl (lv_at hl 2 rfl) ?_
  refine xVro C hN (As := [.int (nI p)]) (rest := []) (q0 := 0) (c_X5_next xl D kA a V hs sl sv pd sg kt ln td p (by omega) P hpd hm hwP) (cwV 1 hts gX5_right_X5_next rfl rfl rfl (by decide +kernel) ⟨Nat.le_of_ble_eq_true rfl, Nat.le_of_ble_eq_true rfl⟩) hP rfl rfl rfl rfl hl.1 rfl (Nat.le_of_ble_eq_true rfl) dX5_right_13 ⟨Nat.le_of_ble_eq_true rfl, Nat.le_of_ble_eq_true rfl⟩ ?_
  refine lv_bipush (v := nI 48) hx hb dX5_right_16 (by decide) ?_
  refine lv_bipush (v := nI 52) hx hb dX5_right_18 (by decide) ?_
  refine xSro C hN (As := [.int (nI (sgn ln P p)), .int (nI 48), .int (nI 52)]) (rest := []) (c_X5_in xl D kA (nI (sgn ln P p)) (nI 48) (nI 52)) (va_cwS 3 hts gX5_right_X5_in rfl rfl rfl (by decide +kernel) ⟨Nat.le_of_ble_eq_true rfl, Nat.le_of_ble_eq_true rfl⟩) (hP.sub (ws' := []) [] rfl) rfl hl.1 rfl (Nat.le_of_ble_eq_true rfl) dX5_right_20 ⟨Nat.le_of_ble_eq_true rfl, Nat.le_of_ble_eq_true rfl⟩ ?_
  refine xTop (y := bI (btwB (sgn ln P p) 48 52)) (congrArg bI (inR_nI (by have := sgn_lt hwP p; omega) (by decide) (by decide))) ?_
  refine xIfNeB C (tgt := 28) dX5_right_23 (by decide) (fun h_23 => ?_) (fun h_23 => ?_)
  · skip
    refine lv_iload_n hx hb dX5_right_28 rfl (lv_at hl 0 rfl) ?_
    refine lv_bipush (v := (-6)) hx hb dX5_right_29 (by decide) ?_
    refine lv_icmp_eq (tgt := 48) hx hb dX5_right_31 (by decide) (fun h_31 => ?_) (fun h_31 => ?_)
    · skip
      rw [kf_n] at h_31
      refine lv_iconst (v := nI 1) hx hb dX5_right_48 (by decide) ?_
      exact xRoI hx hb hret (v := nI 1) (by simp [rgt, show btwB 48 48 52 = true from rfl, h_23, h_31]) dX5_right_49 hlocks
    · skip
      rw [kf_n] at h_31
      refine lv_iload_n hx hb dX5_right_34 rfl (lv_at hl 0 rfl) ?_
      refine lv_if_ne (tgt := 50) hx hb dX5_right_35 (by decide) (fun h_35 => ?_) (fun h_35 => ?_)
      · skip
        replace h_35 := mt kf_0.mpr h_35
        refine lv_aload_n hx hb dX5_right_50 rfl (lv_at hl 1 rfl) ?_
        refine lv_iload_n hx hb dX5_right_51 rfl (lv_at hl 2 rfl) ?_
        refine lv_iconst (v := nI 2) hx hb dX5_right_52 (by decide) ?_
        refine xIadd C dX5_right_53 ?_
        refine xVro C hN (As := [.int (nI (p + 2))]) (rest := []) (q0 := 0) (c_X5_next xl D kA a V hs sl sv pd sg kt ln td (p + 2) (by omega) P hpd hm hwP) (cwV 1 hts gX5_right_X5_next rfl rfl rfl (by decide +kernel) ⟨Nat.le_of_ble_eq_true rfl, Nat.le_of_ble_eq_true rfl⟩) hP rfl rfl rfl rfl hl.1 rfl (Nat.le_of_ble_eq_true rfl) dX5_right_54 ⟨Nat.le_of_ble_eq_true rfl, Nat.le_of_ble_eq_true rfl⟩ ?_
        refine lv_bipush (v := nI 42) hx hb dX5_right_57 (by decide) ?_
        refine xIcmpEq C (tgt := 81) (by have := sgn_lt hwP (p + 2); omega) (by decide) dX5_right_59 (by decide) (fun h_59 => ?_) (fun h_59 => ?_)
        · skip
          refine lv_aload_n hx hb dX5_right_81 rfl (lv_at hl 1 rfl) ?_
          refine lv_iload_n hx hb dX5_right_82 rfl (lv_at hl 2 rfl) ?_
          refine lv_iconst (v := nI 3) hx hb dX5_right_83 (by decide) ?_
          refine xIadd C dX5_right_84 ?_
          refine xVro C hN (As := [.int (nI (p + 3))]) (rest := []) (q0 := 0) (c_X5_next xl D kA a V hs sl sv pd sg kt ln td (p + 3) (by omega) P hpd hm hwP) (cwV 1 hts gX5_right_X5_next rfl rfl rfl (by decide +kernel) ⟨Nat.le_of_ble_eq_true rfl, Nat.le_of_ble_eq_true rfl⟩) hP rfl rfl rfl rfl hl.1 rfl (Nat.le_of_ble_eq_true rfl) dX5_right_85 ⟨Nat.le_of_ble_eq_true rfl, Nat.le_of_ble_eq_true rfl⟩ ?_
          refine lv_bipush (v := nI 42) hx hb dX5_right_88 (by decide) ?_
          refine xIcmpEq C (tgt := 112) (by have := sgn_lt hwP (p + 3); omega) (by decide) dX5_right_90 (by decide) (fun h_90 => ?_) (fun h_90 => ?_)
          · skip
            refine lv_iload_n hx hb dX5_right_112 rfl (lv_at hl 0 rfl) ?_
            refine lv_if_eq (tgt := 137) hx hb dX5_right_113 (by decide) (fun h_113 => ?_) (fun h_113 => ?_)
            · exact absurd (kf_0.mp h_113) h_35
            · skip
              replace h_113 := mt kf_0.mpr h_113
              refine lv_aload_n hx hb dX5_right_116 rfl (lv_at hl 1 rfl) ?_
              refine lv_iload_n hx hb dX5_right_117 rfl (lv_at hl 2 rfl) ?_
              refine lv_iconst (v := nI 4) hx hb dX5_right_118 (by decide) ?_
              refine xIadd C dX5_right_119 ?_
              refine xVro C hN (As := [.int (nI (p + 4))]) (rest := []) (q0 := 0) (c_X5_next xl D kA a V hs sl sv pd sg kt ln td (p + 4) (by omega) P hpd hm hwP) (cwV 1 hts gX5_right_X5_next rfl rfl rfl (by decide +kernel) ⟨Nat.le_of_ble_eq_true rfl, Nat.le_of_ble_eq_true rfl⟩) hP rfl rfl rfl rfl hl.1 rfl (Nat.le_of_ble_eq_true rfl) dX5_right_120 ⟨Nat.le_of_ble_eq_true rfl, Nat.le_of_ble_eq_true rfl⟩ ?_
              refine lv_bipush (v := nI 49) hx hb dX5_right_123 (by decide) ?_
              refine lv_bipush (v := nI 57) hx hb dX5_right_125 (by decide) ?_
              refine xSro C hN (As := [.int (nI (sgn ln P (p + 4))), .int (nI 49), .int (nI 57)]) (rest := []) (c_X5_in xl D kA (nI (sgn ln P (p + 4))) (nI 49) (nI 57)) (va_cwS 3 hts gX5_right_X5_in rfl rfl rfl (by decide +kernel) ⟨Nat.le_of_ble_eq_true rfl, Nat.le_of_ble_eq_true rfl⟩) (hP.sub (ws' := []) [] rfl) rfl hl.1 rfl (Nat.le_of_ble_eq_true rfl) dX5_right_127 ⟨Nat.le_of_ble_eq_true rfl, Nat.le_of_ble_eq_true rfl⟩ ?_
              refine xTop (y := bI (btwB (sgn ln P (p + 4)) 49 57)) (congrArg bI (inR_nI (by have := sgn_lt hwP (p + 4); omega) (by decide) (by decide))) ?_
              refine xIfEqB C (tgt := 137) dX5_right_130 (by decide) (fun h_130 => ?_) (fun h_130 => ?_)
              · skip
                refine lv_iconst (v := nI 4) hx hb dX5_right_137 (by decide) ?_
                exact xRoI hx hb hret (v := nI 4) (by simp [rgt, show btwB 48 48 52 = true from rfl, h_23, h_31, h_35, h_59, h_90, h_113, h_130]) dX5_right_138 hlocks
              · skip
                refine lv_iconst (v := nI 5) hx hb dX5_right_133 (by decide) ?_
                refine lv_goto (tgt := 138) hx hb dX5_right_134 (by decide) ?_
                exact xRoI hx hb hret (v := nI 5) (by simp [rgt, show btwB 48 48 52 = true from rfl, h_23, h_31, h_35, h_59, h_90, h_113, h_130]) dX5_right_138 hlocks
          · skip
            refine lv_aload_n hx hb dX5_right_93 rfl (lv_at hl 1 rfl) ?_
            refine lv_iload_n hx hb dX5_right_94 rfl (lv_at hl 2 rfl) ?_
            refine lv_iconst (v := nI 3) hx hb dX5_right_95 (by decide) ?_
            refine xIadd C dX5_right_96 ?_
            refine xVro C hN (As := [.int (nI (p + 3))]) (rest := []) (q0 := 0) (c_X5_next xl D kA a V hs sl sv pd sg kt ln td (p + 3) (by omega) P hpd hm hwP) (cwV 1 hts gX5_right_X5_next rfl rfl rfl (by decide +kernel) ⟨Nat.le_of_ble_eq_true rfl, Nat.le_of_ble_eq_true rfl⟩) hP rfl rfl rfl rfl hl.1 rfl (Nat.le_of_ble_eq_true rfl) dX5_right_97 ⟨Nat.le_of_ble_eq_true rfl, Nat.le_of_ble_eq_true rfl⟩ ?_
            refine lv_bipush (v := nI 48) hx hb dX5_right_100 (by decide) ?_
            refine lv_bipush (v := nI 53) hx hb dX5_right_102 (by decide) ?_
            refine xSro C hN (As := [.int (nI (sgn ln P (p + 3))), .int (nI 48), .int (nI 53)]) (rest := []) (c_X5_in xl D kA (nI (sgn ln P (p + 3))) (nI 48) (nI 53)) (va_cwS 3 hts gX5_right_X5_in rfl rfl rfl (by decide +kernel) ⟨Nat.le_of_ble_eq_true rfl, Nat.le_of_ble_eq_true rfl⟩) (hP.sub (ws' := []) [] rfl) rfl hl.1 rfl (Nat.le_of_ble_eq_true rfl) dX5_right_104 ⟨Nat.le_of_ble_eq_true rfl, Nat.le_of_ble_eq_true rfl⟩ ?_
            refine xTop (y := bI (btwB (sgn ln P (p + 3)) 48 53)) (congrArg bI (inR_nI (by have := sgn_lt hwP (p + 3); omega) (by decide) (by decide))) ?_
            refine xIfNeB C (tgt := 112) dX5_right_107 (by decide) (fun h_107 => ?_) (fun h_107 => ?_)
            · skip
              refine lv_iload_n hx hb dX5_right_112 rfl (lv_at hl 0 rfl) ?_
              refine lv_if_eq (tgt := 137) hx hb dX5_right_113 (by decide) (fun h_113 => ?_) (fun h_113 => ?_)
              · exact absurd (kf_0.mp h_113) h_35
              · skip
                replace h_113 := mt kf_0.mpr h_113
                refine lv_aload_n hx hb dX5_right_116 rfl (lv_at hl 1 rfl) ?_
                refine lv_iload_n hx hb dX5_right_117 rfl (lv_at hl 2 rfl) ?_
                refine lv_iconst (v := nI 4) hx hb dX5_right_118 (by decide) ?_
                refine xIadd C dX5_right_119 ?_
                refine xVro C hN (As := [.int (nI (p + 4))]) (rest := []) (q0 := 0) (c_X5_next xl D kA a V hs sl sv pd sg kt ln td (p + 4) (by omega) P hpd hm hwP) (cwV 1 hts gX5_right_X5_next rfl rfl rfl (by decide +kernel) ⟨Nat.le_of_ble_eq_true rfl, Nat.le_of_ble_eq_true rfl⟩) hP rfl rfl rfl rfl hl.1 rfl (Nat.le_of_ble_eq_true rfl) dX5_right_120 ⟨Nat.le_of_ble_eq_true rfl, Nat.le_of_ble_eq_true rfl⟩ ?_
                refine lv_bipush (v := nI 49) hx hb dX5_right_123 (by decide) ?_
                refine lv_bipush (v := nI 57) hx hb dX5_right_125 (by decide) ?_
                refine xSro C hN (As := [.int (nI (sgn ln P (p + 4))), .int (nI 49), .int (nI 57)]) (rest := []) (c_X5_in xl D kA (nI (sgn ln P (p + 4))) (nI 49) (nI 57)) (va_cwS 3 hts gX5_right_X5_in rfl rfl rfl (by decide +kernel) ⟨Nat.le_of_ble_eq_true rfl, Nat.le_of_ble_eq_true rfl⟩) (hP.sub (ws' := []) [] rfl) rfl hl.1 rfl (Nat.le_of_ble_eq_true rfl) dX5_right_127 ⟨Nat.le_of_ble_eq_true rfl, Nat.le_of_ble_eq_true rfl⟩ ?_
                refine xTop (y := bI (btwB (sgn ln P (p + 4)) 49 57)) (congrArg bI (inR_nI (by have := sgn_lt hwP (p + 4); omega) (by decide) (by decide))) ?_
                refine xIfEqB C (tgt := 137) dX5_right_130 (by decide) (fun h_130 => ?_) (fun h_130 => ?_)
                · skip
                  refine lv_iconst (v := nI 4) hx hb dX5_right_137 (by decide) ?_
                  exact xRoI hx hb hret (v := nI 4) (by simp [rgt, show btwB 48 48 52 = true from rfl, h_23, h_31, h_35, h_59, h_90, h_107, h_113, h_130]) dX5_right_138 hlocks
                · skip
                  refine lv_iconst (v := nI 5) hx hb dX5_right_133 (by decide) ?_
                  refine lv_goto (tgt := 138) hx hb dX5_right_134 (by decide) ?_
                  exact xRoI hx hb hret (v := nI 5) (by simp [rgt, show btwB 48 48 52 = true from rfl, h_23, h_31, h_35, h_59, h_90, h_107, h_113, h_130]) dX5_right_138 hlocks
            · skip
              refine lv_iconst (v := nI 3) hx hb dX5_right_110 (by decide) ?_
              exact xRoI hx hb hret (v := nI 3) (by simp [rgt, show btwB 48 48 52 = true from rfl, h_23, h_31, h_35, h_59, h_90, h_107]) dX5_right_111 hlocks
        · skip
          refine lv_aload_n hx hb dX5_right_62 rfl (lv_at hl 1 rfl) ?_
          refine lv_iload_n hx hb dX5_right_63 rfl (lv_at hl 2 rfl) ?_
          refine lv_iconst (v := nI 2) hx hb dX5_right_64 (by decide) ?_
          refine xIadd C dX5_right_65 ?_
          refine xVro C hN (As := [.int (nI (p + 2))]) (rest := []) (q0 := 0) (c_X5_next xl D kA a V hs sl sv pd sg kt ln td (p + 2) (by omega) P hpd hm hwP) (cwV 1 hts gX5_right_X5_next rfl rfl rfl (by decide +kernel) ⟨Nat.le_of_ble_eq_true rfl, Nat.le_of_ble_eq_true rfl⟩) hP rfl rfl rfl rfl hl.1 rfl (Nat.le_of_ble_eq_true rfl) dX5_right_66 ⟨Nat.le_of_ble_eq_true rfl, Nat.le_of_ble_eq_true rfl⟩ ?_
          refine lv_bipush (v := nI 48) hx hb dX5_right_69 (by decide) ?_
          refine lv_bipush (v := nI 52) hx hb dX5_right_71 (by decide) ?_
          refine xSro C hN (As := [.int (nI (sgn ln P (p + 2))), .int (nI 48), .int (nI 52)]) (rest := []) (c_X5_in xl D kA (nI (sgn ln P (p + 2))) (nI 48) (nI 52)) (va_cwS 3 hts gX5_right_X5_in rfl rfl rfl (by decide +kernel) ⟨Nat.le_of_ble_eq_true rfl, Nat.le_of_ble_eq_true rfl⟩) (hP.sub (ws' := []) [] rfl) rfl hl.1 rfl (Nat.le_of_ble_eq_true rfl) dX5_right_73 ⟨Nat.le_of_ble_eq_true rfl, Nat.le_of_ble_eq_true rfl⟩ ?_
          refine xTop (y := bI (btwB (sgn ln P (p + 2)) 48 52)) (congrArg bI (inR_nI (by have := sgn_lt hwP (p + 2); omega) (by decide) (by decide))) ?_
          refine xIfNeB C (tgt := 81) dX5_right_76 (by decide) (fun h_76 => ?_) (fun h_76 => ?_)
          · skip
            refine lv_aload_n hx hb dX5_right_81 rfl (lv_at hl 1 rfl) ?_
            refine lv_iload_n hx hb dX5_right_82 rfl (lv_at hl 2 rfl) ?_
            refine lv_iconst (v := nI 3) hx hb dX5_right_83 (by decide) ?_
            refine xIadd C dX5_right_84 ?_
            refine xVro C hN (As := [.int (nI (p + 3))]) (rest := []) (q0 := 0) (c_X5_next xl D kA a V hs sl sv pd sg kt ln td (p + 3) (by omega) P hpd hm hwP) (cwV 1 hts gX5_right_X5_next rfl rfl rfl (by decide +kernel) ⟨Nat.le_of_ble_eq_true rfl, Nat.le_of_ble_eq_true rfl⟩) hP rfl rfl rfl rfl hl.1 rfl (Nat.le_of_ble_eq_true rfl) dX5_right_85 ⟨Nat.le_of_ble_eq_true rfl, Nat.le_of_ble_eq_true rfl⟩ ?_
            refine lv_bipush (v := nI 42) hx hb dX5_right_88 (by decide) ?_
            refine xIcmpEq C (tgt := 112) (by have := sgn_lt hwP (p + 3); omega) (by decide) dX5_right_90 (by decide) (fun h_90 => ?_) (fun h_90 => ?_)
            · skip
              refine lv_iload_n hx hb dX5_right_112 rfl (lv_at hl 0 rfl) ?_
              refine lv_if_eq (tgt := 137) hx hb dX5_right_113 (by decide) (fun h_113 => ?_) (fun h_113 => ?_)
              · exact absurd (kf_0.mp h_113) h_35
              · skip
                replace h_113 := mt kf_0.mpr h_113
                refine lv_aload_n hx hb dX5_right_116 rfl (lv_at hl 1 rfl) ?_
                refine lv_iload_n hx hb dX5_right_117 rfl (lv_at hl 2 rfl) ?_
                refine lv_iconst (v := nI 4) hx hb dX5_right_118 (by decide) ?_
                refine xIadd C dX5_right_119 ?_
                refine xVro C hN (As := [.int (nI (p + 4))]) (rest := []) (q0 := 0) (c_X5_next xl D kA a V hs sl sv pd sg kt ln td (p + 4) (by omega) P hpd hm hwP) (cwV 1 hts gX5_right_X5_next rfl rfl rfl (by decide +kernel) ⟨Nat.le_of_ble_eq_true rfl, Nat.le_of_ble_eq_true rfl⟩) hP rfl rfl rfl rfl hl.1 rfl (Nat.le_of_ble_eq_true rfl) dX5_right_120 ⟨Nat.le_of_ble_eq_true rfl, Nat.le_of_ble_eq_true rfl⟩ ?_
                refine lv_bipush (v := nI 49) hx hb dX5_right_123 (by decide) ?_
                refine lv_bipush (v := nI 57) hx hb dX5_right_125 (by decide) ?_
                refine xSro C hN (As := [.int (nI (sgn ln P (p + 4))), .int (nI 49), .int (nI 57)]) (rest := []) (c_X5_in xl D kA (nI (sgn ln P (p + 4))) (nI 49) (nI 57)) (va_cwS 3 hts gX5_right_X5_in rfl rfl rfl (by decide +kernel) ⟨Nat.le_of_ble_eq_true rfl, Nat.le_of_ble_eq_true rfl⟩) (hP.sub (ws' := []) [] rfl) rfl hl.1 rfl (Nat.le_of_ble_eq_true rfl) dX5_right_127 ⟨Nat.le_of_ble_eq_true rfl, Nat.le_of_ble_eq_true rfl⟩ ?_
                refine xTop (y := bI (btwB (sgn ln P (p + 4)) 49 57)) (congrArg bI (inR_nI (by have := sgn_lt hwP (p + 4); omega) (by decide) (by decide))) ?_
                refine xIfEqB C (tgt := 137) dX5_right_130 (by decide) (fun h_130 => ?_) (fun h_130 => ?_)
                · skip
                  refine lv_iconst (v := nI 4) hx hb dX5_right_137 (by decide) ?_
                  exact xRoI hx hb hret (v := nI 4) (by simp [rgt, show btwB 48 48 52 = true from rfl, h_23, h_31, h_35, h_59, h_76, h_90, h_113, h_130]) dX5_right_138 hlocks
                · skip
                  refine lv_iconst (v := nI 5) hx hb dX5_right_133 (by decide) ?_
                  refine lv_goto (tgt := 138) hx hb dX5_right_134 (by decide) ?_
                  exact xRoI hx hb hret (v := nI 5) (by simp [rgt, show btwB 48 48 52 = true from rfl, h_23, h_31, h_35, h_59, h_76, h_90, h_113, h_130]) dX5_right_138 hlocks
            · skip
              refine lv_aload_n hx hb dX5_right_93 rfl (lv_at hl 1 rfl) ?_
              refine lv_iload_n hx hb dX5_right_94 rfl (lv_at hl 2 rfl) ?_
              refine lv_iconst (v := nI 3) hx hb dX5_right_95 (by decide) ?_
              refine xIadd C dX5_right_96 ?_
              refine xVro C hN (As := [.int (nI (p + 3))]) (rest := []) (q0 := 0) (c_X5_next xl D kA a V hs sl sv pd sg kt ln td (p + 3) (by omega) P hpd hm hwP) (cwV 1 hts gX5_right_X5_next rfl rfl rfl (by decide +kernel) ⟨Nat.le_of_ble_eq_true rfl, Nat.le_of_ble_eq_true rfl⟩) hP rfl rfl rfl rfl hl.1 rfl (Nat.le_of_ble_eq_true rfl) dX5_right_97 ⟨Nat.le_of_ble_eq_true rfl, Nat.le_of_ble_eq_true rfl⟩ ?_
              refine lv_bipush (v := nI 48) hx hb dX5_right_100 (by decide) ?_
              refine lv_bipush (v := nI 53) hx hb dX5_right_102 (by decide) ?_
              refine xSro C hN (As := [.int (nI (sgn ln P (p + 3))), .int (nI 48), .int (nI 53)]) (rest := []) (c_X5_in xl D kA (nI (sgn ln P (p + 3))) (nI 48) (nI 53)) (va_cwS 3 hts gX5_right_X5_in rfl rfl rfl (by decide +kernel) ⟨Nat.le_of_ble_eq_true rfl, Nat.le_of_ble_eq_true rfl⟩) (hP.sub (ws' := []) [] rfl) rfl hl.1 rfl (Nat.le_of_ble_eq_true rfl) dX5_right_104 ⟨Nat.le_of_ble_eq_true rfl, Nat.le_of_ble_eq_true rfl⟩ ?_
              refine xTop (y := bI (btwB (sgn ln P (p + 3)) 48 53)) (congrArg bI (inR_nI (by have := sgn_lt hwP (p + 3); omega) (by decide) (by decide))) ?_
              refine xIfNeB C (tgt := 112) dX5_right_107 (by decide) (fun h_107 => ?_) (fun h_107 => ?_)
              · skip
                refine lv_iload_n hx hb dX5_right_112 rfl (lv_at hl 0 rfl) ?_
                refine lv_if_eq (tgt := 137) hx hb dX5_right_113 (by decide) (fun h_113 => ?_) (fun h_113 => ?_)
                · exact absurd (kf_0.mp h_113) h_35
                · skip
                  replace h_113 := mt kf_0.mpr h_113
                  refine lv_aload_n hx hb dX5_right_116 rfl (lv_at hl 1 rfl) ?_
                  refine lv_iload_n hx hb dX5_right_117 rfl (lv_at hl 2 rfl) ?_
                  refine lv_iconst (v := nI 4) hx hb dX5_right_118 (by decide) ?_
                  refine xIadd C dX5_right_119 ?_
                  refine xVro C hN (As := [.int (nI (p + 4))]) (rest := []) (q0 := 0) (c_X5_next xl D kA a V hs sl sv pd sg kt ln td (p + 4) (by omega) P hpd hm hwP) (cwV 1 hts gX5_right_X5_next rfl rfl rfl (by decide +kernel) ⟨Nat.le_of_ble_eq_true rfl, Nat.le_of_ble_eq_true rfl⟩) hP rfl rfl rfl rfl hl.1 rfl (Nat.le_of_ble_eq_true rfl) dX5_right_120 ⟨Nat.le_of_ble_eq_true rfl, Nat.le_of_ble_eq_true rfl⟩ ?_
                  refine lv_bipush (v := nI 49) hx hb dX5_right_123 (by decide) ?_
                  refine lv_bipush (v := nI 57) hx hb dX5_right_125 (by decide) ?_
                  refine xSro C hN (As := [.int (nI (sgn ln P (p + 4))), .int (nI 49), .int (nI 57)]) (rest := []) (c_X5_in xl D kA (nI (sgn ln P (p + 4))) (nI 49) (nI 57)) (va_cwS 3 hts gX5_right_X5_in rfl rfl rfl (by decide +kernel) ⟨Nat.le_of_ble_eq_true rfl, Nat.le_of_ble_eq_true rfl⟩) (hP.sub (ws' := []) [] rfl) rfl hl.1 rfl (Nat.le_of_ble_eq_true rfl) dX5_right_127 ⟨Nat.le_of_ble_eq_true rfl, Nat.le_of_ble_eq_true rfl⟩ ?_
                  refine xTop (y := bI (btwB (sgn ln P (p + 4)) 49 57)) (congrArg bI (inR_nI (by have := sgn_lt hwP (p + 4); omega) (by decide) (by decide))) ?_
                  refine xIfEqB C (tgt := 137) dX5_right_130 (by decide) (fun h_130 => ?_) (fun h_130 => ?_)
                  · skip
                    refine lv_iconst (v := nI 4) hx hb dX5_right_137 (by decide) ?_
                    exact xRoI hx hb hret (v := nI 4) (by simp [rgt, show btwB 48 48 52 = true from rfl, h_23, h_31, h_35, h_59, h_76, h_90, h_107, h_113, h_130]) dX5_right_138 hlocks
                  · skip
                    refine lv_iconst (v := nI 5) hx hb dX5_right_133 (by decide) ?_
                    refine lv_goto (tgt := 138) hx hb dX5_right_134 (by decide) ?_
                    exact xRoI hx hb hret (v := nI 5) (by simp [rgt, show btwB 48 48 52 = true from rfl, h_23, h_31, h_35, h_59, h_76, h_90, h_107, h_113, h_130]) dX5_right_138 hlocks
              · skip
                refine lv_iconst (v := nI 3) hx hb dX5_right_110 (by decide) ?_
                exact xRoI hx hb hret (v := nI 3) (by simp [rgt, show btwB 48 48 52 = true from rfl, h_23, h_31, h_35, h_59, h_76, h_90, h_107]) dX5_right_111 hlocks
          · skip
            refine lv_iconst (v := nI 2) hx hb dX5_right_79 (by decide) ?_
            exact xRoI hx hb hret (v := nI 2) (by simp [rgt, show btwB 48 48 52 = true from rfl, h_23, h_31, h_35, h_59, h_76]) dX5_right_80 hlocks
      · skip
        rw [kf_0] at h_35
        refine lv_aload_n hx hb dX5_right_38 rfl (lv_at hl 1 rfl) ?_
        refine lv_iload_n hx hb dX5_right_39 rfl (lv_at hl 2 rfl) ?_
        refine xVro C hN (As := [.int (nI p)]) (rest := []) (q0 := 0) (c_X5_next xl D kA a V hs sl sv pd sg kt ln td p (by omega) P hpd hm hwP) (cwV 1 hts gX5_right_X5_next rfl rfl rfl (by decide +kernel) ⟨Nat.le_of_ble_eq_true rfl, Nat.le_of_ble_eq_true rfl⟩) hP rfl rfl rfl rfl hl.1 rfl (Nat.le_of_ble_eq_true rfl) dX5_right_40 ⟨Nat.le_of_ble_eq_true rfl, Nat.le_of_ble_eq_true rfl⟩ ?_
        refine lv_bipush (v := nI 48) hx hb dX5_right_43 (by decide) ?_
        refine xIcmpEq C (tgt := 50) (by have := sgn_lt hwP p; omega) (by decide) dX5_right_45 (by decide) (fun h_45 => ?_) (fun h_45 => ?_)
        · skip
          refine lv_aload_n hx hb dX5_right_50 rfl (lv_at hl 1 rfl) ?_
          refine lv_iload_n hx hb dX5_right_51 rfl (lv_at hl 2 rfl) ?_
          refine lv_iconst (v := nI 2) hx hb dX5_right_52 (by decide) ?_
          refine xIadd C dX5_right_53 ?_
          refine xVro C hN (As := [.int (nI (p + 2))]) (rest := []) (q0 := 0) (c_X5_next xl D kA a V hs sl sv pd sg kt ln td (p + 2) (by omega) P hpd hm hwP) (cwV 1 hts gX5_right_X5_next rfl rfl rfl (by decide +kernel) ⟨Nat.le_of_ble_eq_true rfl, Nat.le_of_ble_eq_true rfl⟩) hP rfl rfl rfl rfl hl.1 rfl (Nat.le_of_ble_eq_true rfl) dX5_right_54 ⟨Nat.le_of_ble_eq_true rfl, Nat.le_of_ble_eq_true rfl⟩ ?_
          refine lv_bipush (v := nI 42) hx hb dX5_right_57 (by decide) ?_
          refine xIcmpEq C (tgt := 81) (by have := sgn_lt hwP (p + 2); omega) (by decide) dX5_right_59 (by decide) (fun h_59 => ?_) (fun h_59 => ?_)
          · skip
            refine lv_aload_n hx hb dX5_right_81 rfl (lv_at hl 1 rfl) ?_
            refine lv_iload_n hx hb dX5_right_82 rfl (lv_at hl 2 rfl) ?_
            refine lv_iconst (v := nI 3) hx hb dX5_right_83 (by decide) ?_
            refine xIadd C dX5_right_84 ?_
            refine xVro C hN (As := [.int (nI (p + 3))]) (rest := []) (q0 := 0) (c_X5_next xl D kA a V hs sl sv pd sg kt ln td (p + 3) (by omega) P hpd hm hwP) (cwV 1 hts gX5_right_X5_next rfl rfl rfl (by decide +kernel) ⟨Nat.le_of_ble_eq_true rfl, Nat.le_of_ble_eq_true rfl⟩) hP rfl rfl rfl rfl hl.1 rfl (Nat.le_of_ble_eq_true rfl) dX5_right_85 ⟨Nat.le_of_ble_eq_true rfl, Nat.le_of_ble_eq_true rfl⟩ ?_
            refine lv_bipush (v := nI 42) hx hb dX5_right_88 (by decide) ?_
            refine xIcmpEq C (tgt := 112) (by have := sgn_lt hwP (p + 3); omega) (by decide) dX5_right_90 (by decide) (fun h_90 => ?_) (fun h_90 => ?_)
            · skip
              refine lv_iload_n hx hb dX5_right_112 rfl (lv_at hl 0 rfl) ?_
              refine lv_if_eq (tgt := 137) hx hb dX5_right_113 (by decide) (fun h_113 => ?_) (fun h_113 => ?_)
              · skip
                rw [kf_0] at h_113
                refine lv_iconst (v := nI 4) hx hb dX5_right_137 (by decide) ?_
                exact xRoI hx hb hret (v := nI 4) (by simp [rgt, show btwB 48 48 52 = true from rfl, h_23, h_31, h_35, h_45, h_59, h_90, h_113]) dX5_right_138 hlocks
              · exact absurd (kf_0.mpr h_35) h_113
            · skip
              refine lv_aload_n hx hb dX5_right_93 rfl (lv_at hl 1 rfl) ?_
              refine lv_iload_n hx hb dX5_right_94 rfl (lv_at hl 2 rfl) ?_
              refine lv_iconst (v := nI 3) hx hb dX5_right_95 (by decide) ?_
              refine xIadd C dX5_right_96 ?_
              refine xVro C hN (As := [.int (nI (p + 3))]) (rest := []) (q0 := 0) (c_X5_next xl D kA a V hs sl sv pd sg kt ln td (p + 3) (by omega) P hpd hm hwP) (cwV 1 hts gX5_right_X5_next rfl rfl rfl (by decide +kernel) ⟨Nat.le_of_ble_eq_true rfl, Nat.le_of_ble_eq_true rfl⟩) hP rfl rfl rfl rfl hl.1 rfl (Nat.le_of_ble_eq_true rfl) dX5_right_97 ⟨Nat.le_of_ble_eq_true rfl, Nat.le_of_ble_eq_true rfl⟩ ?_
              refine lv_bipush (v := nI 48) hx hb dX5_right_100 (by decide) ?_
              refine lv_bipush (v := nI 53) hx hb dX5_right_102 (by decide) ?_
              refine xSro C hN (As := [.int (nI (sgn ln P (p + 3))), .int (nI 48), .int (nI 53)]) (rest := []) (c_X5_in xl D kA (nI (sgn ln P (p + 3))) (nI 48) (nI 53)) (va_cwS 3 hts gX5_right_X5_in rfl rfl rfl (by decide +kernel) ⟨Nat.le_of_ble_eq_true rfl, Nat.le_of_ble_eq_true rfl⟩) (hP.sub (ws' := []) [] rfl) rfl hl.1 rfl (Nat.le_of_ble_eq_true rfl) dX5_right_104 ⟨Nat.le_of_ble_eq_true rfl, Nat.le_of_ble_eq_true rfl⟩ ?_
              refine xTop (y := bI (btwB (sgn ln P (p + 3)) 48 53)) (congrArg bI (inR_nI (by have := sgn_lt hwP (p + 3); omega) (by decide) (by decide))) ?_
              refine xIfNeB C (tgt := 112) dX5_right_107 (by decide) (fun h_107 => ?_) (fun h_107 => ?_)
              · skip
                refine lv_iload_n hx hb dX5_right_112 rfl (lv_at hl 0 rfl) ?_
                refine lv_if_eq (tgt := 137) hx hb dX5_right_113 (by decide) (fun h_113 => ?_) (fun h_113 => ?_)
                · skip
                  rw [kf_0] at h_113
                  refine lv_iconst (v := nI 4) hx hb dX5_right_137 (by decide) ?_
                  exact xRoI hx hb hret (v := nI 4) (by simp [rgt, show btwB 48 48 52 = true from rfl, h_23, h_31, h_35, h_45, h_59, h_90, h_107, h_113]) dX5_right_138 hlocks
                · exact absurd (kf_0.mpr h_35) h_113
              · skip
                refine lv_iconst (v := nI 3) hx hb dX5_right_110 (by decide) ?_
                exact xRoI hx hb hret (v := nI 3) (by simp [rgt, show btwB 48 48 52 = true from rfl, h_23, h_31, h_35, h_45, h_59, h_90, h_107]) dX5_right_111 hlocks
          · skip
            refine lv_aload_n hx hb dX5_right_62 rfl (lv_at hl 1 rfl) ?_
            refine lv_iload_n hx hb dX5_right_63 rfl (lv_at hl 2 rfl) ?_
            refine lv_iconst (v := nI 2) hx hb dX5_right_64 (by decide) ?_
            refine xIadd C dX5_right_65 ?_
            refine xVro C hN (As := [.int (nI (p + 2))]) (rest := []) (q0 := 0) (c_X5_next xl D kA a V hs sl sv pd sg kt ln td (p + 2) (by omega) P hpd hm hwP) (cwV 1 hts gX5_right_X5_next rfl rfl rfl (by decide +kernel) ⟨Nat.le_of_ble_eq_true rfl, Nat.le_of_ble_eq_true rfl⟩) hP rfl rfl rfl rfl hl.1 rfl (Nat.le_of_ble_eq_true rfl) dX5_right_66 ⟨Nat.le_of_ble_eq_true rfl, Nat.le_of_ble_eq_true rfl⟩ ?_
            refine lv_bipush (v := nI 48) hx hb dX5_right_69 (by decide) ?_
            refine lv_bipush (v := nI 52) hx hb dX5_right_71 (by decide) ?_
            refine xSro C hN (As := [.int (nI (sgn ln P (p + 2))), .int (nI 48), .int (nI 52)]) (rest := []) (c_X5_in xl D kA (nI (sgn ln P (p + 2))) (nI 48) (nI 52)) (va_cwS 3 hts gX5_right_X5_in rfl rfl rfl (by decide +kernel) ⟨Nat.le_of_ble_eq_true rfl, Nat.le_of_ble_eq_true rfl⟩) (hP.sub (ws' := []) [] rfl) rfl hl.1 rfl (Nat.le_of_ble_eq_true rfl) dX5_right_73 ⟨Nat.le_of_ble_eq_true rfl, Nat.le_of_ble_eq_true rfl⟩ ?_
            refine xTop (y := bI (btwB (sgn ln P (p + 2)) 48 52)) (congrArg bI (inR_nI (by have := sgn_lt hwP (p + 2); omega) (by decide) (by decide))) ?_
            refine xIfNeB C (tgt := 81) dX5_right_76 (by decide) (fun h_76 => ?_) (fun h_76 => ?_)
            · skip
              refine lv_aload_n hx hb dX5_right_81 rfl (lv_at hl 1 rfl) ?_
              refine lv_iload_n hx hb dX5_right_82 rfl (lv_at hl 2 rfl) ?_
              refine lv_iconst (v := nI 3) hx hb dX5_right_83 (by decide) ?_
              refine xIadd C dX5_right_84 ?_
              refine xVro C hN (As := [.int (nI (p + 3))]) (rest := []) (q0 := 0) (c_X5_next xl D kA a V hs sl sv pd sg kt ln td (p + 3) (by omega) P hpd hm hwP) (cwV 1 hts gX5_right_X5_next rfl rfl rfl (by decide +kernel) ⟨Nat.le_of_ble_eq_true rfl, Nat.le_of_ble_eq_true rfl⟩) hP rfl rfl rfl rfl hl.1 rfl (Nat.le_of_ble_eq_true rfl) dX5_right_85 ⟨Nat.le_of_ble_eq_true rfl, Nat.le_of_ble_eq_true rfl⟩ ?_
              refine lv_bipush (v := nI 42) hx hb dX5_right_88 (by decide) ?_
              refine xIcmpEq C (tgt := 112) (by have := sgn_lt hwP (p + 3); omega) (by decide) dX5_right_90 (by decide) (fun h_90 => ?_) (fun h_90 => ?_)
              · skip
                refine lv_iload_n hx hb dX5_right_112 rfl (lv_at hl 0 rfl) ?_
                refine lv_if_eq (tgt := 137) hx hb dX5_right_113 (by decide) (fun h_113 => ?_) (fun h_113 => ?_)
                · skip
                  rw [kf_0] at h_113
                  refine lv_iconst (v := nI 4) hx hb dX5_right_137 (by decide) ?_
                  exact xRoI hx hb hret (v := nI 4) (by simp [rgt, show btwB 48 48 52 = true from rfl, h_23, h_31, h_35, h_45, h_59, h_76, h_90, h_113]) dX5_right_138 hlocks
                · exact absurd (kf_0.mpr h_35) h_113
              · skip
                refine lv_aload_n hx hb dX5_right_93 rfl (lv_at hl 1 rfl) ?_
                refine lv_iload_n hx hb dX5_right_94 rfl (lv_at hl 2 rfl) ?_
                refine lv_iconst (v := nI 3) hx hb dX5_right_95 (by decide) ?_
                refine xIadd C dX5_right_96 ?_
                refine xVro C hN (As := [.int (nI (p + 3))]) (rest := []) (q0 := 0) (c_X5_next xl D kA a V hs sl sv pd sg kt ln td (p + 3) (by omega) P hpd hm hwP) (cwV 1 hts gX5_right_X5_next rfl rfl rfl (by decide +kernel) ⟨Nat.le_of_ble_eq_true rfl, Nat.le_of_ble_eq_true rfl⟩) hP rfl rfl rfl rfl hl.1 rfl (Nat.le_of_ble_eq_true rfl) dX5_right_97 ⟨Nat.le_of_ble_eq_true rfl, Nat.le_of_ble_eq_true rfl⟩ ?_
                refine lv_bipush (v := nI 48) hx hb dX5_right_100 (by decide) ?_
                refine lv_bipush (v := nI 53) hx hb dX5_right_102 (by decide) ?_
                refine xSro C hN (As := [.int (nI (sgn ln P (p + 3))), .int (nI 48), .int (nI 53)]) (rest := []) (c_X5_in xl D kA (nI (sgn ln P (p + 3))) (nI 48) (nI 53)) (va_cwS 3 hts gX5_right_X5_in rfl rfl rfl (by decide +kernel) ⟨Nat.le_of_ble_eq_true rfl, Nat.le_of_ble_eq_true rfl⟩) (hP.sub (ws' := []) [] rfl) rfl hl.1 rfl (Nat.le_of_ble_eq_true rfl) dX5_right_104 ⟨Nat.le_of_ble_eq_true rfl, Nat.le_of_ble_eq_true rfl⟩ ?_
                refine xTop (y := bI (btwB (sgn ln P (p + 3)) 48 53)) (congrArg bI (inR_nI (by have := sgn_lt hwP (p + 3); omega) (by decide) (by decide))) ?_
                refine xIfNeB C (tgt := 112) dX5_right_107 (by decide) (fun h_107 => ?_) (fun h_107 => ?_)
                · skip
                  refine lv_iload_n hx hb dX5_right_112 rfl (lv_at hl 0 rfl) ?_
                  refine lv_if_eq (tgt := 137) hx hb dX5_right_113 (by decide) (fun h_113 => ?_) (fun h_113 => ?_)
                  · skip
                    rw [kf_0] at h_113
                    refine lv_iconst (v := nI 4) hx hb dX5_right_137 (by decide) ?_
                    exact xRoI hx hb hret (v := nI 4) (by simp [rgt, show btwB 48 48 52 = true from rfl, h_23, h_31, h_35, h_45, h_59, h_76, h_90, h_107, h_113]) dX5_right_138 hlocks
                  · exact absurd (kf_0.mpr h_35) h_113
                · skip
                  refine lv_iconst (v := nI 3) hx hb dX5_right_110 (by decide) ?_
                  exact xRoI hx hb hret (v := nI 3) (by simp [rgt, show btwB 48 48 52 = true from rfl, h_23, h_31, h_35, h_45, h_59, h_76, h_90, h_107]) dX5_right_111 hlocks
            · skip
              refine lv_iconst (v := nI 2) hx hb dX5_right_79 (by decide) ?_
              exact xRoI hx hb hret (v := nI 2) (by simp [rgt, show btwB 48 48 52 = true from rfl, h_23, h_31, h_35, h_45, h_59, h_76]) dX5_right_80 hlocks
        · skip
          refine lv_iconst (v := nI 1) hx hb dX5_right_48 (by decide) ?_
          exact xRoI hx hb hret (v := nI 1) (by simp [rgt, show btwB 48 48 52 = true from rfl, h_23, h_31, h_35, h_45]) dX5_right_49 hlocks
  · skip
    refine lv_iconst (v := nI 0) hx hb dX5_right_26 (by decide) ?_
    exact xRoI hx hb hret (v := nI 0) (by simp [rgt, show btwB 48 48 52 = true from rfl, h_23]) dX5_right_27 hlocks

set_option maxHeartbeats 8000000 in
set_option maxRecDepth 100000 in
theorem c_X5_whole (xl : Launch) (D : va_G) (kA : Nat → ClassId) (a : Nat → Nat) (V : Nat → Nat) (hs sl sv pd sg : Nat → Int32) (kt ln td : Nat) (p : Nat) (hp : p ≤ 100) (P : Nat → Nat) (hpd : relP pd ln P) (hm : ln ≤ 60) (hwP : wfP ln P) : Met xl yX5_whole wsX5_whole { frames := 1, cells := 0, slots := 0, locals := 21 } (va_Pc [.ref (a 0), .int (nI p)] (xPr D kA [((a 0), .inr (5, [.ref (a 1), .ref (a 2), .int (nI kt), .ref (a 3), .ref (a 4), .ref (a 5), .int (nI ln), .ref (a 6), .int (nI td)])), ((a 1), .inl (kA 0, 169, .inl (vI V))), ((a 2), .inl (kA 0, 1014, .inl (hs))), ((a 3), .inl (kA 0, 338, .inl (sl))), ((a 4), .inl (kA 2, 2, .inl (sv))), ((a 5), .inl (kA 0, 60, .inl (pd))), ((a 6), .inl (kA 0, 5, .inl (sg)))])) (vp_Si (fun rr => rr = nI (whl ln P p))) 0 0 (fun _ => False) := by
  refine Met.ofW (cc := cX5_whole) (maxL := 2) (ret := (some .int)) (by decide) rfl ?_
  intro xp xe xs xm args xbe xme xc s₁ B hml hv
  obtain ⟨rfl, hP, hN⟩ := hv
  have hret := B.returns
  have C : CallFix xp xm xc cX5_whole 2 xs ([.ref (a 0), .int (nI p)] : List Value).toArray wsX5_whole RX5 := ⟨B.exec, B.bytes, hml, findClass_of_methodNamed B.named, atoms_spec (ws := wsX5_whole) B.pre⟩
  have hlocks := B.notSynchronized
  obtain ⟨hx, hb, _, hown, hts⟩ := id C
  have hl := lv_entry ([.ref (a 0), .int (nI p)]) (n := 2) (Nat.le_of_ble_eq_true rfl)
  rw [lg_entry_eq]
  generalize (lg_sl ([.ref (a 0), .int (nI p)]) ++ List.replicate (2 - (lg_sl ([.ref (a 0), .int (nI p)])).length) Slot.unset).toArray = ls at hl ⊢
  have hl : lv_has ls 2 [(0, .ref (a 0)), (1, .int (nI p))] := hl
  refine lv_aload_n hx hb dX5_whole_0 rfl (lv_at hl 0 rfl) ?_
  refine lv_iload_n hx hb dX5_whole_1 rfl (lv_at hl 1 rfl) ?_
  refine lv_iconst (v := nI 1) hx hb dX5_whole_2 (by decide) ?_
  refine xIadd C dX5_whole_3 ?_
  refine xVro C hN (As := [.int (nI (p + 1))]) (rest := []) (q0 := 0) (c_X5_next xl D kA a V hs sl sv pd sg kt ln td (p + 1) (by omega) P hpd hm hwP) (cwV 1 hts gX5_whole_X5_next rfl rfl rfl (by decide +kernel) ⟨Nat.le_of_ble_eq_true rfl, Nat.le_of_ble_eq_true rfl⟩) hP rfl rfl rfl rfl hl.1 rfl (Nat.le_of_ble_eq_true rfl) dX5_whole_4 ⟨Nat.le_of_ble_eq_true rfl, Nat.le_of_ble_eq_true rfl⟩ ?_
  refine lv_bipush (v := nI 112) hx hb dX5_whole_7 (by decide) ?_
  refine xIcmpNe C (tgt := 16) (by have := sgn_lt hwP (p + 1); omega) (by decide) dX5_whole_9 (by decide) (fun h_9 => ?_) (fun h_9 => ?_)
  · skip
    refine lv_iconst (v := nI 5) hx hb dX5_whole_16 (by decide) ?_
    exact xRoI hx hb hret (v := nI 5) (by unfold whl; first | rw [if_pos h_9] | rw [if_neg h_9]) dX5_whole_17 hlocks
  · skip
    refine lv_iconst (v := nI 4) hx hb dX5_whole_12 (by decide) ?_
    refine lv_goto (tgt := 17) hx hb dX5_whole_13 (by decide) ?_
    exact xRoI hx hb hret (v := nI 4) (by unfold whl; first | rw [if_pos h_9] | rw [if_neg h_9]) dX5_whole_17 hlocks

set_option maxHeartbeats 8000000 in
set_option maxRecDepth 100000 in
theorem c_X5_wrong (xl : Launch) (D : va_G) (kA : Nat → ClassId) (a : Nat → Nat) (V : Nat → Nat) (hs sl sv pd sg : Nat → Int32) (kt ln td : Nat) (P : Nat → Nat) (hpd : relP pd ln P) (hm : ln ≤ 60) (hwP : wfP ln P) (A : Nat → Prop) : Met xl yX5_wrong wsX5_wrong { frames := 2, cells := 0, slots := 0, locals := 44 } (va_Pc [.ref (a 0)] (xPw D kA A [((a 0), .inr (5, [.ref (a 1), .ref (a 2), .int (nI kt), .ref (a 3), .ref (a 4), .ref (a 5), .int (nI ln), .ref (a 6), .int (nI td)])), ((a 1), .inl (kA 0, 169, .inl (vI V))), ((a 2), .inl (kA 0, 1014, .inl (hs))), ((a 3), .inl (kA 0, 338, .inl (sl))), ((a 4), .inl (kA 2, 2, .inl (sv))), ((a 5), .inl (kA 0, 60, .inl (pd))), ((a 6), .inl (kA 0, 5, .inl (sg)))])) (xQi D A (fun r u => r = (wrK ln P 61 0 0).1 ∧ u = modW kA a V hs sl sv pd sg kt ln (wrK ln P 61 0 0).2)) 0 0 A := by
  refine Met.ofW (cc := cX5_wrong) (maxL := 4) (ret := (some .int)) (by decide) rfl ?_
  intro xp xe xs xm args xbe xme xc s₁ B hml hv
  obtain ⟨rfl, hP, hN, hD, hA⟩ := hv
  have hret := B.returns
  have C : CallFix xp xm xc cX5_wrong 4 xs ([.ref (a 0)] : List Value).toArray wsX5_wrong RX5 := ⟨B.exec, B.bytes, hml, findClass_of_methodNamed B.named, atoms_spec (ws := wsX5_wrong) B.pre⟩
  have hlocks := B.notSynchronized
  obtain ⟨hx, hb, _, hown, hts⟩ := id C
  have hS : va_S A xs.heap xs.heap [] := va_S.rf
  have hl := lv_entry ([.ref (a 0)]) (n := 4) (Nat.le_of_ble_eq_true rfl)
  rw [lg_entry_eq]
  generalize (lg_sl ([.ref (a 0)]) ++ List.replicate (4 - (lg_sl ([.ref (a 0)])).length) Slot.unset).toArray = ls at hl ⊢
  have hl : lv_has ls 4 [(0, .ref (a 0))] := hl
  refine lv_iconst (v := nI 0) hx hb dX5_wrong_0 (by decide) ?_
  refine lv_istore_n (lv' := [(1, .int (nI 0)), (0, .ref (a 0))]) hx hb dX5_wrong_1 rfl hl (by decide) rfl (fun ls hl => ?_)
  refine lv_aload_n hx hb dX5_wrong_2 rfl (lv_at hl 1 rfl) ?_
  refine lv_iconst (v := nI 0) hx hb dX5_wrong_3 (by decide) ?_
  refine xPut C hN hP hD hS 0 (j := 8) (v := .int (nI 0)) rfl rfl iX5_wrong_X5 tyX5_ok nmX5 (by decide) kX5_wrong_129 rfl rfl rfl rfl (Nat.le_of_ble_eq_true rfl) dX5_wrong_4 (fun H locs hP hD hS => ?_)
  have hP : va_P D vwCl [((a 0), .inr (5, [.ref (a 1), .ref (a 2), .int (nI kt), .ref (a 3), .ref (a 4), .ref (a 5), .int (nI ln), .ref (a 6), .int (nI 0)])), ((a 1), .inl (kA 0, 169, .inl (vI V))), ((a 2), .inl (kA 0, 1014, .inl (hs))), ((a 3), .inl (kA 0, 338, .inl (sl))), ((a 4), .inl (kA 2, 2, .inl (sv))), ((a 5), .inl (kA 0, 60, .inl (pd))), ((a 6), .inl (kA 0, 5, .inl (sg)))] H := hP
  have hD : va_D A [((a 0), .inr (5, [.ref (a 1), .ref (a 2), .int (nI kt), .ref (a 3), .ref (a 4), .ref (a 5), .int (nI ln), .ref (a 6), .int (nI 0)])), ((a 1), .inl (kA 0, 169, .inl (vI V))), ((a 2), .inl (kA 0, 1014, .inl (hs))), ((a 3), .inl (kA 0, 338, .inl (sl))), ((a 4), .inl (kA 2, 2, .inl (sv))), ((a 5), .inl (kA 0, 60, .inl (pd))), ((a 6), .inl (kA 0, 5, .inl (sg)))] := hD
  refine lv_iconst (v := nI 1) hx hb dX5_wrong_7 (by decide) ?_
  refine lv_istore_n (lv' := [(2, .int (nI 1)), (1, .int (nI 0)), (0, .ref (a 0))]) hx hb dX5_wrong_8 rfl hl (by decide) rfl (fun ls hl => ?_)
  have L9 : ∀ (fuel : Nat), ∀ (p : Nat) (more : Bool) (k : Nat) (t : Nat) (hmu : k + (if more = true then 1 else 0) < fuel) (hp : more = true → p ≤ ln ∧ ln < p + k ∧ wrK ln P 61 0 0 = wrK ln P k p t) (hnm : more = false → wrK ln P 61 0 0 = (-6, t)) (H : Heap) (locs : List Loc) (_ : va_P D vwCl [((a 0), .inr (5, [.ref (a 1), .ref (a 2), .int (nI kt), .ref (a 3), .ref (a 4), .ref (a 5), .int (nI ln), .ref (a 6), .int (nI t)])), ((a 1), .inl (kA 0, 169, .inl (vI V))), ((a 2), .inl (kA 0, 1014, .inl (hs))), ((a 3), .inl (kA 0, 338, .inl (sl))), ((a 4), .inl (kA 2, 2, .inl (sv))), ((a 5), .inl (kA 0, 60, .inl (pd))), ((a 6), .inl (kA 0, 5, .inl (sg)))] H) (_ : va_D A [((a 0), .inr (5, [.ref (a 1), .ref (a 2), .int (nI kt), .ref (a 3), .ref (a 4), .ref (a 5), .int (nI ln), .ref (a 6), .int (nI t)])), ((a 1), .inl (kA 0, 169, .inl (vI V))), ((a 2), .inl (kA 0, 1014, .inl (hs))), ((a 3), .inl (kA 0, 338, .inl (sl))), ((a 4), .inl (kA 2, 2, .inl (sv))), ((a 5), .inl (kA 0, 60, .inl (pd))), ((a 6), .inl (kA 0, 5, .inl (sg)))]) (_ : va_S A xs.heap H locs) (ls : Array Slot) (_ : lv_has ls 4 [(2, .int (bI more)), (1, .int (nI p)), (0, .ref (a 0))]), W xp xl xe (headSpec wsX5_wrong { frames := 2, cells := 0, slots := 0, locals := 44 }).room xs xm ([.ref (a 0)] : List Value).toArray xbe xme xc H locs 0 0 (MQ xbe (xQi D A (fun r u => r = (wrK ln P 61 0 0).1 ∧ u = modW kA a V hs sl sv pd sg kt ln (wrK ln P 61 0 0).2)) ([.ref (a 0)] : List Value).toArray xs 0 0 A) (F0 xm 9 ls []) := by
    intro fuel
    induction fuel with
    | zero => intro p more k t hmu; exact absurd hmu (Nat.not_lt_zero _)
    | succ fuel ih9 =>
      intro p more k t hmu hp hnm H locs hP hD hS ls hl
      refine lv_iload_n hx hb dX5_wrong_9 rfl (lv_at hl 0 rfl) ?_
      refine xIfEqB C (tgt := 92) dX5_wrong_10 (by decide) (fun h_10 => ?_) (fun h_10 => ?_)
      · skip
        refine lv_bipush (v := (-6)) hx hb dX5_wrong_92 (by decide) ?_
        exact xRetI hx hb hret (v := (-6)) (⟨by rw [hnm h_10], by rw [hnm h_10]⟩) hP hD hS dX5_wrong_94 hlocks
      · skip
        obtain ⟨hp1, hp2, hp3⟩ := hp h_10
        have hpr := rgt_le (m := ln) (P := P) (p := p)
        refine lv_aload_n hx hb dX5_wrong_13 rfl (lv_at hl 2 rfl) ?_
        refine lv_iload_n hx hb dX5_wrong_14 rfl (lv_at hl 1 rfl) ?_
        refine xVro C hN (As := [.int (nI p)]) (rest := []) (q0 := 0) (c_X5_right xl D kA a V hs sl sv pd sg kt ln t p (by omega) P hpd hm hwP) (cwV 1 hts gX5_wrong_X5_right rfl rfl rfl (by decide +kernel) ⟨Nat.le_of_ble_eq_true rfl, Nat.le_of_ble_eq_true rfl⟩) hP rfl rfl rfl rfl hl.1 rfl (Nat.le_of_ble_eq_true rfl) dX5_wrong_15 ⟨Nat.le_of_ble_eq_true rfl, Nat.le_of_ble_eq_true rfl⟩ ?_
        refine lv_istore_n (lv' := [(3, .int (nI (rgt ln P p))), (2, .int (bI more)), (1, .int (nI p)), (0, .ref (a 0))]) hx hb dX5_wrong_18 rfl hl (by decide) rfl (fun ls hl => ?_)
        refine lv_iload_n hx hb dX5_wrong_19 rfl (lv_at hl 0 rfl) ?_
        refine lv_aload_n hx hb dX5_wrong_20 rfl (lv_at hl 3 rfl) ?_
        refine lv_iload_n hx hb dX5_wrong_21 rfl (lv_at hl 2 rfl) ?_
        refine xVro C hN (As := [.int (nI p)]) (rest := [.int (nI (rgt ln P p))]) (q0 := 0) (c_X5_whole xl D kA a V hs sl sv pd sg kt ln t p (by omega) P hpd hm hwP) (cwV 1 hts gX5_wrong_X5_whole rfl rfl rfl (by decide +kernel) ⟨Nat.le_of_ble_eq_true rfl, Nat.le_of_ble_eq_true rfl⟩) hP rfl rfl rfl rfl hl.1 rfl (Nat.le_of_ble_eq_true rfl) dX5_wrong_22 ⟨Nat.le_of_ble_eq_true rfl, Nat.le_of_ble_eq_true rfl⟩ ?_
        refine xIcmpGe C (tgt := 32) (by have := rgt_le (m := ln) (P := P) (p := p); omega) (by unfold whl; split <;> omega) dX5_wrong_25 (by decide) (fun h_25 => ?_) (fun h_25 => ?_)
        · skip
          refine lv_aload_n hx hb dX5_wrong_32 rfl (lv_at hl 3 rfl) ?_
          refine lv_dup hx hb dX5_wrong_33 rfl ?_
          refine xGet C hN hP 0 (j := 8) rfl rfl iX5_wrong_X5 (by decide) kX5_wrong_129 rfl rfl dX5_wrong_34 ?_
          refine lv_iconst (v := nI 1) hx hb dX5_wrong_37 (by decide) ?_
          refine xIadd C dX5_wrong_38 ?_
          refine xPut C hN hP hD hS 0 (j := 8) (v := .int (nI (t + 1))) rfl rfl iX5_wrong_X5 tyX5_ok nmX5 (by decide) kX5_wrong_129 rfl rfl rfl rfl (Nat.le_of_ble_eq_true rfl) dX5_wrong_39 (fun H locs hP hD hS => ?_)
          have hP : va_P D vwCl [((a 0), .inr (5, [.ref (a 1), .ref (a 2), .int (nI kt), .ref (a 3), .ref (a 4), .ref (a 5), .int (nI ln), .ref (a 6), .int (nI (t + 1))])), ((a 1), .inl (kA 0, 169, .inl (vI V))), ((a 2), .inl (kA 0, 1014, .inl (hs))), ((a 3), .inl (kA 0, 338, .inl (sl))), ((a 4), .inl (kA 2, 2, .inl (sv))), ((a 5), .inl (kA 0, 60, .inl (pd))), ((a 6), .inl (kA 0, 5, .inl (sg)))] H := hP
          have hD : va_D A [((a 0), .inr (5, [.ref (a 1), .ref (a 2), .int (nI kt), .ref (a 3), .ref (a 4), .ref (a 5), .int (nI ln), .ref (a 6), .int (nI (t + 1))])), ((a 1), .inl (kA 0, 169, .inl (vI V))), ((a 2), .inl (kA 0, 1014, .inl (hs))), ((a 3), .inl (kA 0, 338, .inl (sl))), ((a 4), .inl (kA 2, 2, .inl (sv))), ((a 5), .inl (kA 0, 60, .inl (pd))), ((a 6), .inl (kA 0, 5, .inl (sg)))] := hD
          refine lv_iload_n hx hb dX5_wrong_42 rfl (lv_at hl 2 rfl) ?_
          refine lv_iload_n hx hb dX5_wrong_43 rfl (lv_at hl 0 rfl) ?_
          refine xIadd C dX5_wrong_44 ?_
          refine lv_istore_n (lv' := [(1, .int (nI (p + (rgt ln P p)))), (3, .int (nI (rgt ln P p))), (2, .int (bI more)), (0, .ref (a 0))]) hx hb dX5_wrong_45 rfl hl (by decide) rfl (fun ls hl => ?_)
          refine lv_iload_n hx hb dX5_wrong_46 rfl (lv_at hl 0 rfl) ?_
          refine lv_aload_n hx hb dX5_wrong_47 rfl (lv_at hl 3 rfl) ?_
          refine xGet C hN hP 0 (j := 6) rfl rfl iX5_wrong_X5 (by decide) kX5_wrong_118 rfl rfl dX5_wrong_48 ?_
          refine xIcmpGe C (tgt := 58) (by have := rgt_le (m := ln) (P := P) (p := p); omega) (by omega) dX5_wrong_51 (by decide) (fun h_51 => ?_) (fun h_51 => ?_)
          · skip
            refine lv_iconst (v := nI 0) hx hb dX5_wrong_58 (by decide) ?_
            refine lv_istore_n (lv' := [(2, .int (nI 0)), (1, .int (nI (p + (rgt ln P p)))), (3, .int (nI (rgt ln P p))), (0, .ref (a 0))]) hx hb dX5_wrong_59 rfl hl (by decide) rfl (fun ls hl => ?_)
            refine lv_iload_n hx hb dX5_wrong_60 rfl (lv_at hl 0 rfl) ?_
            refine xIfEq C (tgt := 77) (by omega) dX5_wrong_61 (by decide) (fun h_61 => ?_) (fun h_61 => ?_)
            · skip
              refine lv_iload_n hx hb dX5_wrong_77 rfl (lv_at hl 1 rfl) ?_
              refine lv_iload_n hx hb dX5_wrong_78 rfl (lv_at hl 0 rfl) ?_
              refine xIfEq C (tgt := 86) (by omega) dX5_wrong_79 (by decide) (fun h_79 => ?_) (fun h_79 => ?_)
              · skip
                refine lv_iconst (v := nI 0) hx hb dX5_wrong_86 (by decide) ?_
                refine xIadd C dX5_wrong_87 ?_
                refine lv_istore_n (lv' := [(1, .int (nI ((p + (rgt ln P p)) + 0))), (2, .int (nI 0)), (3, .int (nI (rgt ln P p))), (0, .ref (a 0))]) hx hb dX5_wrong_88 rfl hl (by decide) rfl (fun ls hl => ?_)
                refine lv_goto (tgt := 9) hx hb dX5_wrong_89 (by decide) ?_
                have hP : va_P D vwCl [((a 0), .inr (5, [.ref (a 1), .ref (a 2), .int (nI kt), .ref (a 3), .ref (a 4), .ref (a 5), .int (nI ln), .ref (a 6), .int (nI (t + 1))])), ((a 1), .inl (kA 0, 169, .inl (vI V))), ((a 2), .inl (kA 0, 1014, .inl (hs))), ((a 3), .inl (kA 0, 338, .inl (sl))), ((a 4), .inl (kA 2, 2, .inl (sv))), ((a 5), .inl (kA 0, 60, .inl (pd))), ((a 6), .inl (kA 0, 5, .inl (sg)))] H := hP
                exact ih9 ((p + (rgt ln P p)) + 0) false (k - 1) (t + 1) (by first | (rw [if_pos h_10] at hmu; rw [if_pos rfl]; omega) | (rw [if_pos h_10] at hmu; rw [if_neg (by decide)]; omega)) (by first | exact (fun _ => ⟨by omega, by omega, by rw [hp3, wr_2 hp2 hp1 h_25 h_51 h_72]⟩) | exact (fun q => absurd q (by decide))) (by first | exact (fun q => absurd q (by decide)) | exact (fun _ => by rw [hp3, wr_4 hp2 hp1 h_25 h_51])) _ _ hP hD hS _ (lv_sub hl [1, 0, 3] rfl)
              · exact absurd h_79 (by decide)
            · exact absurd h_61 (by decide)
          · skip
            refine lv_iconst (v := nI 1) hx hb dX5_wrong_54 (by decide) ?_
            refine lv_goto (tgt := 59) hx hb dX5_wrong_55 (by decide) ?_
            refine lv_istore_n (lv' := [(2, .int (nI 1)), (1, .int (nI (p + (rgt ln P p)))), (3, .int (nI (rgt ln P p))), (0, .ref (a 0))]) hx hb dX5_wrong_59 rfl hl (by decide) rfl (fun ls hl => ?_)
            refine lv_iload_n hx hb dX5_wrong_60 rfl (lv_at hl 0 rfl) ?_
            refine xIfEq C (tgt := 77) (by omega) dX5_wrong_61 (by decide) (fun h_61 => ?_) (fun h_61 => ?_)
            · exact absurd h_61 (by decide)
            · skip
              refine lv_aload_n hx hb dX5_wrong_64 rfl (lv_at hl 3 rfl) ?_
              refine xGet C hN hP 0 (j := 5) rfl rfl iX5_wrong_X5 (by decide) kX5_wrong_23 rfl rfl dX5_wrong_65 ?_
              refine lv_iload_n hx hb dX5_wrong_68 rfl (lv_at hl 1 rfl) ?_
              refine xIald C hN hP 5 (j := p + (rgt ln P p)) (v := nI (P (p + rgt ln P p))) rfl (by omega) (by decide) (hpd _ h_51) dX5_wrong_69 ?_
              refine lv_bipush (v := nI 59) hx hb dX5_wrong_70 (by decide) ?_
              refine xIcmpEq C (tgt := 77) (by have := hwP _ h_51; omega) (by decide) dX5_wrong_72 (by decide) (fun h_72 => ?_) (fun h_72 => ?_)
              · skip
                refine lv_iload_n hx hb dX5_wrong_77 rfl (lv_at hl 1 rfl) ?_
                refine lv_iload_n hx hb dX5_wrong_78 rfl (lv_at hl 0 rfl) ?_
                refine xIfEq C (tgt := 86) (by omega) dX5_wrong_79 (by decide) (fun h_79 => ?_) (fun h_79 => ?_)
                · exact absurd h_79 (by decide)
                · skip
                  refine lv_iconst (v := nI 1) hx hb dX5_wrong_82 (by decide) ?_
                  refine lv_goto (tgt := 87) hx hb dX5_wrong_83 (by decide) ?_
                  refine xIadd C dX5_wrong_87 ?_
                  refine lv_istore_n (lv' := [(1, .int (nI ((p + (rgt ln P p)) + 1))), (2, .int (nI 1)), (3, .int (nI (rgt ln P p))), (0, .ref (a 0))]) hx hb dX5_wrong_88 rfl hl (by decide) rfl (fun ls hl => ?_)
                  refine lv_goto (tgt := 9) hx hb dX5_wrong_89 (by decide) ?_
                  have hP : va_P D vwCl [((a 0), .inr (5, [.ref (a 1), .ref (a 2), .int (nI kt), .ref (a 3), .ref (a 4), .ref (a 5), .int (nI ln), .ref (a 6), .int (nI (t + 1))])), ((a 1), .inl (kA 0, 169, .inl (vI V))), ((a 2), .inl (kA 0, 1014, .inl (hs))), ((a 3), .inl (kA 0, 338, .inl (sl))), ((a 4), .inl (kA 2, 2, .inl (sv))), ((a 5), .inl (kA 0, 60, .inl (pd))), ((a 6), .inl (kA 0, 5, .inl (sg)))] H := hP
                  exact ih9 ((p + (rgt ln P p)) + 1) true (k - 1) (t + 1) (by first | (rw [if_pos h_10] at hmu; rw [if_pos rfl]; omega) | (rw [if_pos h_10] at hmu; rw [if_neg (by decide)]; omega)) (by first | exact (fun _ => ⟨by omega, by omega, by rw [hp3, wr_2 hp2 hp1 h_25 h_51 h_72]⟩) | exact (fun q => absurd q (by decide))) (by first | exact (fun q => absurd q (by decide)) | exact (fun _ => by rw [hp3, wr_4 hp2 hp1 h_25 h_51])) _ _ hP hD hS _ (lv_sub hl [1, 0, 3] rfl)
              · skip
                refine lv_iload_n hx hb dX5_wrong_75 rfl (lv_at hl 1 rfl) ?_
                exact xRetI hx hb hret (v := nI (p + (rgt ln P p))) (⟨by rw [hp3, wr_3 hp2 hp1 h_25 h_51 h_72], by rw [hp3, wr_3 hp2 hp1 h_25 h_51 h_72]⟩) hP hD hS dX5_wrong_76 hlocks
        · skip
          refine lv_iload_n hx hb dX5_wrong_28 rfl (lv_at hl 2 rfl) ?_
          refine lv_iload_n hx hb dX5_wrong_29 rfl (lv_at hl 0 rfl) ?_
          refine xIadd C dX5_wrong_30 ?_
          exact xRetI hx hb hret (v := nI (p + (rgt ln P p))) (⟨by rw [hp3, wr_1 hp2 hp1 h_25], by rw [hp3, wr_1 hp2 hp1 h_25]⟩) hP hD hS dX5_wrong_31 hlocks
  exact L9 _ 0 true 61 0 (Nat.lt_succ_self _) (fun _ => ⟨by omega, by omega, rfl⟩) (fun q => by cases q) _ _ hP hD hS _ (lv_sub hl [0, 1, 2] rfl)
