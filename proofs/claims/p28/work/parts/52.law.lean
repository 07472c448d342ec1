/-! The law's own method. -/
theorem WX.s {D : va_G} {kA : Nat → ClassId} {A : Nat → Prop} {H0 H : Heap} {locs : List Loc} {ox os ob ot : Nat → Nat} {S : Sig} {X : va_W} (hW : WX D kA A H0 ox os ob ot S X H locs) : va_S A H0 H locs := by
  obtain ⟨_, _, _, _, hS⟩ := hW
  exact hS
set_option maxHeartbeats 4000000 in
set_option maxRecDepth 100000 in
theorem c_L_cell (xl : Launch) (bs L : Nat) (sc : Nat → Int32) (j : Nat) (hj : j < L) (hL : L < 2 ^ 31) : Met xl yL_cell wsL_cell { frames := 0, cells := 0, slots := 0, locals := 0 } (va_Pc [.ref bs, .int (nI j)] (xPx bs L sc)) (vp_Si (fun rr => rr = sc j)) 0 0 (fun _ => False) := by
  refine Met.ofW (cc := cL_cell) (maxL := 2) (ret := (some .int)) (by decide) rfl ?_
  intro xp xe xs xm args xbe xme xc s₁ B hml hv
  obtain ⟨rfl, hX⟩ := hv
  have hret := B.returns
  have C : CallFix xp xm xc cL_cell 2 xs ([.ref bs, .int (nI j)] : List Value).toArray wsL_cell RL := ⟨B.exec, B.bytes, hml, findClass_of_methodNamed B.named, atoms_spec (ws := wsL_cell) B.pre⟩
  have hlocks := B.notSynchronized
  obtain ⟨hx, hb, _, hown, hts⟩ := id C
  have hX : va_X bs L sc xs xs.heap := hX
  have hbl : bs < xs.heap.size := by
    obtain ⟨scr, hcb, _⟩ := hX
    exact (Array.getElem?_eq_some_iff.mp hcb).1
  have hbA : ¬ (fun _ : Nat => False) bs := fun h => h
  have hS : va_S (fun _ : Nat => False) xs.heap xs.heap [] := va_S.rf
  have hl := lv_entry ([.ref bs, .int (nI j)]) (n := 2) (Nat.le_of_ble_eq_true rfl)
  rw [lg_entry_eq]
  generalize (lg_sl ([.ref bs, .int (nI j)]) ++ List.replicate (2 - (lg_sl ([.ref bs, .int (nI j)])).length) Slot.unset).toArray = ls at hl ⊢
  have hl : lv_has ls 2 [(0, .ref bs), (1, .int (nI j))] := hl
  refine lv_iload_n hx hb dL_cell_0 rfl (lv_at hl 1 rfl) ?_
  refine lv_aload_n hx hb dL_cell_1 rfl (lv_at hl 0 rfl) ?_
  refine va_slen hx hb hX hbl hbA hS dL_cell_2 ?_
  refine xIcmpGe C (tgt := 12) (by omega) (by omega) dL_cell_3 (by decide) (fun h_3 => ?_) (fun h_3 => ?_)
  · exfalso; omega
  · refine lv_aload_n hx hb dL_cell_6 rfl (lv_at hl 0 rfl) ?_
    refine lv_iload_n hx hb dL_cell_7 rfl (lv_at hl 1 rfl) ?_
    refine xSld C hX hbl hbA hS hj hL dL_cell_8 ?_
    refine lv_goto (tgt := 20) hx hb dL_cell_9 (by decide) ?_
    exact xRoI hx hb hret (v := sc j) rfl dL_cell_20 hlocks
theorem qCell {p : Program} {l : Launch} {e : Env} {R : Room} {s : State} {m : MethodId} {args : Array Value} {below : List Frame} {meth : Method} {c : Code} {H H0 : Heap} {locs : List Loc} {cells slots : Nat} {Q : State → Prop} {cc : ByteArray} {pc nL : Nat} {ls : Array Slot} {rest st0 : List Value} {Ts : List Cond} {own : String} {A : Nat → Prop} {bs L : Nat} {sc : Nat → Int32} (C : CallFix p m c cc nL s args Ts own) (hX : va_X bs L sc s H0) (hbl : bs < H0.size) (hbA : ¬ A bs) (hS : va_S A H0 H locs) {y : MethodName} {bytes : ByteArray} {maxL n index : Nat} {ret : Option FieldType} {wy : List Cond} {rm : Room} {As : List Value} {v : Int32} (hM : Met l y wy rm (va_Pc As (xPx bs L sc)) (vp_Si (fun r => r = v)) 0 0 (fun _ => False)) (cw : CallB R s args own index y bytes maxL ret wy rm 0 0 n ∧ (Cond.static y).before args s = true) (hn : As.length = n) (hl : ls.size = nL) (hst : st0 = As.reverse ++ rest) (h8 : (rest.map fun v => v.category).sum ≤ 8) (hdg : decode cc pc = .ok (.invokestatic index, 3)) (hf : cells ≤ R.cells ∧ slots ≤ R.slots)
    (kk : W p l e R s m args below meth c H locs cells slots Q (F0 m (pc + 3) ls (.int v :: rest))) : W p l e R s m args below meth c H locs cells slots Q (F0 m pc ls st0) :=
  vp_callSi (xRun (va_runS C hM cw (xPreX hX hbl hbA hS) rfl hn hl hst (lv_room h8) hdg hf)) (fun r hr => by rw [hr]; exact kk)
set_option maxHeartbeats 8000000 in
set_option maxRecDepth 100000 in
theorem law_run {xp : Program} (xl : Launch) {xe : Env} {xs : State} {xm : MethodId} {xbe : List Frame} {xme : Method} {xc : Code} {bs L : Nat} {sc : Nat → Int32} (hLL : L ≤ 260) (C0 : lw_At xp xs xm xme xc bs L sc) {D : va_G} {kA : Nat → ClassId} (hN : KN D kA xs) {A : Nat → Prop} (hA : ∀ q : Nat, xs.heap.size ≤ q → A q) (hAf : ∀ q : Nat, A q → xs.heap.size ≤ q) {ox os ob ot : Nat → Nat} {V : Nat → Nat} {m : Nat} {P : Nat → Nat} {kt : Nat} {HH : Nat → Nat → Nat} {HB : Nat → Bool} {LL : Nat → Nat → Nat} {dd : Nat} {g : Nat → Int32} (hI : InvS (V, m, P, kt, HH, HB, LL)) (hL : LI V g 0) {H : Heap} {locs : List Loc} (hW : WX D kA A xs.heap ox os ob ot (V, m, P, kt, HH, HB, LL) [(dd, .inl (kA 0, 2, .inl (g)))] H locs) {ls : Array Slot} (hl : lv_has ls 6 [(0, .ref bs), (1, .ref (ox 0)), (2, .ref dd), (3, .int (nI 1))]) : W xp xl xe room_1 xs xm #[Value.ref bs] xbe xme xc H locs 400 4000 (lw_Z xbe #[Value.ref bs] xs) (F0 xm 36 ls []) := by
  obtain ⟨hx, hb, hr, hml, hown, hts0, hX, hbl, hlocks, hgv⟩ := id C0
  have C : CallFix xp xm xc cL_law 6 xs #[Value.ref bs] wsL_law RL := ⟨hx, hb, hml, hown, fun w hw => hts0 w (wsL_law_in w hw)⟩
  have hts : ∀ w ∈ wsL_law, w.before #[Value.ref bs] xs = true := C.2.2.2.2
  have hbA : ¬ A bs := fun h => absurd (hAf bs h) (Nat.not_le.mpr hbl)
  refine lv_aload_n hx hb dL_law_36 rfl (lv_at hl 0 rfl) ?_
  refine va_slen hx hb hX hbl hbA hW.s dL_law_37 ?_
  refine lv_iconst (v := nI 3) hx hb dL_law_38 (by decide) ?_
  refine xIdiv C (by omega) (by decide) (by decide) dL_law_39 ?_
  have J40 : ∀ (tn : Nat) (htn : tn ≤ 36 ∧ 3 * tn ≤ L) (H : Heap) (locs : List Loc) (_ : WX D kA A xs.heap ox os ob ot (V, m, P, kt, HH, HB, LL) [(dd, .inl (kA 0, 2, .inl (g)))] H locs) (ls : Array Slot) (_ : lv_has ls 6 [(0, .ref bs), (1, .ref (ox 0)), (2, .ref dd), (3, .int (nI 1))]), W xp xl xe room_1 xs xm #[Value.ref bs] xbe xme xc H locs (400) (4000) (lw_Z xbe #[Value.ref bs] xs) (F0 xm 54 ls [.int (nI tn)]) := by
    intro tn htn H locs hW ls hl
    refine lv_istore (lv' := [(4, .int (nI tn)), (0, .ref bs), (1, .ref (ox 0)), (2, .ref dd), (3, .int (nI 1))]) hx hb dL_law_54 hl (by decide) rfl (fun ls hl => ?_)
    refine lv_iconst (v := nI 0) hx hb dL_law_56 (by decide) ?_
    refine lv_istore (lv' := [(5, .int (nI 0)), (4, .int (nI tn)), (0, .ref bs), (1, .ref (ox 0)), (2, .ref dd), (3, .int (nI 1))]) hx hb dL_law_57 hl (by decide) rfl (fun ls hl => ?_)
    have L59 : ∀ (fuel : Nat), ∀ (k : Nat) (V : Nat → Nat) (kt : Nat) (HH : Nat → Nat → Nat) (g : Nat → Int32) (hmu : tn - k < fuel) (hk : k ≤ tn) (hI : InvS (V, m, P, kt, HH, HB, LL)) (hL : LI V g k) (H : Heap) (locs : List Loc) (_ : WX D kA A xs.heap ox os ob ot (V, m, P, kt, HH, HB, LL) [(dd, .inl (kA 0, 2, .inl (g)))] H locs) (ls : Array Slot) (_ : lv_has ls 6 [(5, .int (nI k)), (4, .int (nI tn)), (0, .ref bs), (1, .ref (ox 0)), (2, .ref dd), (3, .int (nI 1))]), W xp xl xe room_1 xs xm #[Value.ref bs] xbe xme xc H locs (400 + 200 * k) (4000 + 2000 * k) (lw_Z xbe #[Value.ref bs] xs) (F0 xm 59 ls []) := by
      intro fuel
      induction fuel with
      | zero => intro k V kt HH g hmu; exact absurd hmu (Nat.not_lt_zero _)
      | succ fuel ih59 =>
        intro k V kt HH g hmu hk hI hL H locs hW ls hl
        refine lv_iload hx hb dL_law_59 (lv_at hl 0 rfl) ?_
        refine lv_iload hx hb dL_law_61 (lv_at hl 1 rfl) ?_
        refine xIcmpGe C (tgt := 168) (by omega) (by omega) dL_law_63 (by decide) (fun h_63 => ?_) (fun h_63 => ?_)
        · skip
          refine lv_iload_n hx hb dL_law_168 rfl (lv_at hl 5 rfl) ?_
          refine va_forget (fun q hq => hAf _ (hW.s.2.2 q hq)) ?_
          refine W.widen (k := 600000) (n := 7302250) (by omega) (by omega) ?_
          exact lw_ret hx hb hr hlocks dL_law_169
        · skip
          refine lv_iload_n hx hb dL_law_66 rfl (lv_at hl 5 rfl) ?_
          refine xIfEq C (tgt := 168) (by decide) dL_law_67 (by decide) (fun h_67 => ?_) (fun h_67 => ?_)
          · exact absurd h_67 (by decide)
          · skip
            refine lv_aload_n hx hb dL_law_70 rfl (lv_at hl 3 rfl) ?_
            refine lv_aload_n hx hb dL_law_71 rfl (lv_at hl 4 rfl) ?_
            refine lv_aload_n hx hb dL_law_72 rfl (lv_at hl 2 rfl) ?_
            refine lv_iconst (v := nI 3) hx hb dL_law_73 (by decide) ?_
            refine lv_iload hx hb dL_law_74 (lv_at hl 0 rfl) ?_
            refine xImul C dL_law_76 ?_
            refine qCell C hX hbl hbA hW.s (As := [.ref bs, .int (nI (3 * k))]) (rest := [.ref dd, .ref (ox 0)]) (v := sc (3 * k)) (c_L_cell xl bs L sc (3 * k) (by omega) (by omega)) (va_cwS 2 hts gL_law_L_cell rfl rfl rfl (by decide +kernel) ⟨Nat.le_of_ble_eq_true rfl, Nat.le_of_ble_eq_true rfl⟩) rfl hl.1 rfl (Nat.le_of_ble_eq_true rfl) dL_law_77 ⟨(show 400 + 200 * k ≤ 600000 by omega), (show 4000 + 2000 * k ≤ 7302250 by omega)⟩ ?_
            refine lv_bipush (v := nI 16) hx hb dL_law_80 (by decide) ?_
            refine wSr0 C hN (As := [.int (sc (3 * k)), .int (nI 16)]) (rest := [.ref dd, .ref (ox 0)]) (v := nI (loN (sc (3 * k)) % 16)) (c_L_low xl D kA (sc (3 * k)) 16 (by decide) (by decide)) (va_cwS 2 hts gL_law_L_low rfl rfl rfl (by decide +kernel) ⟨Nat.le_of_ble_eq_true rfl, Nat.le_of_ble_eq_true rfl⟩) rfl hl.1 rfl (Nat.le_of_ble_eq_true rfl) dL_law_82 ⟨(show 400 + 200 * k ≤ 600000 by omega), (show 4000 + 2000 * k ≤ 7302250 by omega)⟩ ?_
            refine lv_aload_n hx hb dL_law_85 rfl (lv_at hl 2 rfl) ?_
            refine lv_iconst (v := nI 3) hx hb dL_law_86 (by decide) ?_
            refine lv_iload hx hb dL_law_87 (lv_at hl 0 rfl) ?_
            refine xImul C dL_law_89 ?_
            refine lv_iconst (v := nI 1) hx hb dL_law_90 (by decide) ?_
            refine xIadd C dL_law_91 ?_
            refine qCell C hX hbl hbA hW.s (As := [.ref bs, .int (nI ((3 * k) + 1))]) (rest := [.int (nI (loN (sc (3 * k)) % 16)), .ref dd, .ref (ox 0)]) (v := sc ((3 * k) + 1)) (c_L_cell xl bs L sc ((3 * k) + 1) (by omega) (by omega)) (va_cwS 2 hts gL_law_L_cell rfl rfl rfl (by decide +kernel) ⟨Nat.le_of_ble_eq_true rfl, Nat.le_of_ble_eq_true rfl⟩) rfl hl.1 rfl (Nat.le_of_ble_eq_true rfl) dL_law_92 ⟨(show 400 + 200 * k ≤ 600000 by omega), (show 4000 + 2000 * k ≤ 7302250 by omega)⟩ ?_
            refine lv_aload_n hx hb dL_law_95 rfl (lv_at hl 2 rfl) ?_
            refine lv_iconst (v := nI 3) hx hb dL_law_96 (by decide) ?_
            refine lv_iload hx hb dL_law_97 (lv_at hl 0 rfl) ?_
            refine xImul C dL_law_99 ?_
            refine lv_iconst (v := nI 2) hx hb dL_law_100 (by decide) ?_
            refine xIadd C dL_law_101 ?_
            refine qCell C hX hbl hbA hW.s (As := [.ref bs, .int (nI ((3 * k) + 2))]) (rest := [.int (sc ((3 * k) + 1)), .int (nI (loN (sc (3 * k)) % 16)), .ref dd, .ref (ox 0)]) (v := sc ((3 * k) + 2)) (c_L_cell xl bs L sc ((3 * k) + 2) (by omega) (by omega)) (va_cwS 2 hts gL_law_L_cell rfl rfl rfl (by decide +kernel) ⟨Nat.le_of_ble_eq_true rfl, Nat.le_of_ble_eq_true rfl⟩) rfl hl.1 rfl (Nat.le_of_ble_eq_true rfl) dL_law_102 ⟨(show 400 + 200 * k ≤ 600000 by omega), (show 4000 + 2000 * k ≤ 7302250 by omega)⟩ ?_
            refine qS C hN hA (As := [.ref (ox 0), .ref dd, .int (nI (loN (sc (3 * k)) % 16)), .int (sc ((3 * k) + 1)), .int (sc ((3 * k) + 2))]) (rest := []) (Xc := [(dd, .inl (kA 0, 2, .inl (g)))]) (Xr := []) (fun u A1 h => c_L_change xl D kA ox os ob ot V m P kt HH HB LL hI dd g k hL (by omega) (loN (sc (3 * k)) % 16) (lo_mod (by decide)) (sc (3 * k + 1)) (sc (3 * k + 2)) u h A1) (va_cwS 5 hts gL_law_L_change rfl rfl rfl (by decide +kernel) ⟨Nat.le_of_ble_eq_true rfl, Nat.le_of_ble_eq_true rfl⟩) hW (List.Perm.refl _) rfl hl.1 rfl (Nat.le_of_ble_eq_true rfl) dL_law_105 ⟨(show (400 + 200 * k) + 14 ≤ 600000 by omega), (show (4000 + 2000 * k) + 212 ≤ 7302250 by omega)⟩ (fun r_105 S2 X2 H locs hR hW => ?_)
            obtain ⟨rfl, U, kt2, HH2, g2, rfl, hI2, hL2, rfl⟩ := hR
            have hW : WX D kA A xs.heap ox os ob ot (U, m, P, kt2, HH2, HB, LL) [(dd, .inl (kA 0, 2, .inl (g2)))] H locs := hW
            refine xIfEq C (tgt := 160) (by decide) dL_law_108 (by decide) (fun h_108 => ?_) (fun h_108 => ?_)
            · exact absurd h_108 (by decide)
            · skip
              refine lv_aload_n hx hb dL_law_111 rfl (lv_at hl 3 rfl) ?_
              refine lv_aload_n hx hb dL_law_112 rfl (lv_at hl 4 rfl) ?_
              refine lv_aload_n hx hb dL_law_113 rfl (lv_at hl 2 rfl) ?_
              refine lv_iconst (v := nI 3) hx hb dL_law_114 (by decide) ?_
              refine lv_iload hx hb dL_law_115 (lv_at hl 0 rfl) ?_
              refine xImul C dL_law_117 ?_
              refine qCell C hX hbl hbA hW.s (As := [.ref bs, .int (nI (3 * k))]) (rest := [.ref dd, .ref (ox 0)]) (v := sc (3 * k)) (c_L_cell xl bs L sc (3 * k) (by omega) (by omega)) (va_cwS 2 hts gL_law_L_cell rfl rfl rfl (by decide +kernel) ⟨Nat.le_of_ble_eq_true rfl, Nat.le_of_ble_eq_true rfl⟩) rfl hl.1 rfl (Nat.le_of_ble_eq_true rfl) dL_law_118 ⟨(show 400 + 200 * k + 14 ≤ 600000 by omega), (show 4000 + 2000 * k + 212 ≤ 7302250 by omega)⟩ ?_
              refine lv_sipush (v := nI 1023) hx hb dL_law_121 (by decide) ?_
              refine lv_iand hx hb dL_law_124 ?_
              refine qS C hN hA (As := [.ref (ox 0), .ref dd, .int ((sc (3 * k)) &&& (nI 1023))]) (rest := []) (Xc := [(dd, .inl (kA 0, 2, .inl (g2)))]) (Xr := []) (fun u A1 h => c_L_holds xl D kA ox os ob ot U m P kt2 HH2 HB LL hI2 dd g2 (k + 1) hL2 (by omega) ((sc (3 * k)) &&& (nI 1023)) u h A1) (va_cwS 3 hts gL_law_L_holds rfl rfl rfl (by decide +kernel) ⟨Nat.le_of_ble_eq_true rfl, Nat.le_of_ble_eq_true rfl⟩) hW (List.Perm.refl _) rfl hl.1 rfl (Nat.le_of_ble_eq_true rfl) dL_law_125 ⟨(show (400 + 200 * k + 14) + 60 ≤ 600000 by omega), (show (4000 + 2000 * k + 212) + 300 ≤ 7302250 by omega)⟩ (fun r_125 S2 X2 H locs hR hW => ?_)
              obtain ⟨rfl, rfl, rfl⟩ := hR
              have hW : WX D kA A xs.heap ox os ob ot (U, m, P, kt2, HH2, HB, LL) [(dd, .inl (kA 0, 2, .inl (g2)))] H locs := hW
              refine xIfEq C (tgt := 160) (by decide) dL_law_128 (by decide) (fun h_128 => ?_) (fun h_128 => ?_)
              · exact absurd h_128 (by decide)
              · skip
                have J131 : ∀ (V3 : Nat → Nat) (kt3 : Nat) (HH3 : Nat → Nat → Nat) (g3 : Nat → Int32) (hI3 : InvS (V3, m, P, kt3, HH3, HB, LL)) (hL3 : LI V3 g3 (k + 1)) (H : Heap) (locs : List Loc) (_ : WX D kA A xs.heap ox os ob ot (V3, m, P, kt3, HH3, HB, LL) [(dd, .inl (kA 0, 2, .inl (g3)))] H locs) (ls : Array Slot) (_ : lv_has ls 6 [(5, .int (nI k)), (4, .int (nI tn)), (0, .ref bs), (1, .ref (ox 0)), (2, .ref dd), (3, .int (nI 1))]), W xp xl xe room_1 xs xm #[Value.ref bs] xbe xme xc H locs (400 + 200 * (k + 1)) (4000 + 2000 * (k + 1)) (lw_Z xbe #[Value.ref bs] xs) (F0 xm 156 ls []) := by
                  intro V3 kt3 HH3 g3 hI3 hL3 H locs hW ls hl
                  refine lv_iconst (v := nI 1) hx hb dL_law_156 (by decide) ?_
                  refine lv_goto (tgt := 161) hx hb dL_law_157 (by decide) ?_
                  refine lv_istore_n (lv' := [(3, .int (nI 1)), (5, .int (nI k)), (4, .int (nI tn)), (0, .ref bs), (1, .ref (ox 0)), (2, .ref dd)]) hx hb dL_law_161 rfl hl (by decide) rfl (fun ls hl => ?_)
                  refine xIinc C (kx := 1) (d := 1) (lv' := [(5, .int (nI (k + 1))), (3, .int (nI 1)), (4, .int (nI tn)), (0, .ref bs), (1, .ref (ox 0)), (2, .ref dd)]) dL_law_162 hl rfl (by decide) (by decide) rfl (fun ls hl => ?_)
                  refine lv_goto (tgt := 59) hx hb dL_law_165 (by decide) ?_
                  exact ih59 (k + 1) V3 kt3 HH3 g3 (by omega) (by omega) hI3 hL3 _ _ hW _ (lv_sub hl [0, 2, 3, 4, 5, 1] rfl)
                refine lv_iload hx hb dL_law_131 (lv_at hl 0 rfl) ?_
                refine lv_iconst (v := nI 4) hx hb dL_law_133 (by decide) ?_
                refine xIrem C (by omega) (by decide) (by decide) dL_law_134 ?_
                refine lv_iconst (v := nI 3) hx hb dL_law_135 (by decide) ?_
                refine xIcmpNe C (tgt := 156) (by omega) (by decide) dL_law_136 (by decide) (fun h_136 => ?_) (fun h_136 => ?_)
                · skip
                  refine W.widen (k := 400 + 200 * (k + 1)) (n := 4000 + 2000 * (k + 1)) (by omega) (by omega) ?_
                  exact J131 U kt2 HH2 g2 hI2 hL2 _ _ hW _ (lv_sub hl [0, 1, 2, 3, 4, 5] rfl)
                · skip
                  refine lv_aload_n hx hb dL_law_139 rfl (lv_at hl 3 rfl) ?_
                  refine lv_aload_n hx hb dL_law_140 rfl (lv_at hl 2 rfl) ?_
                  refine lv_iconst (v := nI 3) hx hb dL_law_141 (by decide) ?_
                  refine lv_iload hx hb dL_law_142 (lv_at hl 0 rfl) ?_
                  refine xImul C dL_law_144 ?_
                  refine lv_iconst (v := nI 2) hx hb dL_law_145 (by decide) ?_
                  refine xIadd C dL_law_146 ?_
                  refine qCell C hX hbl hbA hW.s (As := [.ref bs, .int (nI ((3 * k) + 2))]) (rest := [.ref (ox 0)]) (v := sc ((3 * k) + 2)) (c_L_cell xl bs L sc ((3 * k) + 2) (by omega) (by omega)) (va_cwS 2 hts gL_law_L_cell rfl rfl rfl (by decide +kernel) ⟨Nat.le_of_ble_eq_true rfl, Nat.le_of_ble_eq_true rfl⟩) rfl hl.1 rfl (Nat.le_of_ble_eq_true rfl) dL_law_147 ⟨(show 400 + 200 * k + 14 + 60 ≤ 600000 by omega), (show 4000 + 2000 * k + 212 + 300 ≤ 7302250 by omega)⟩ ?_
                  refine qS C hN hA (As := [.ref (ox 0), .int (sc ((3 * k) + 2))]) (rest := []) (Xc := []) (Xr := [(dd, .inl (kA 0, 2, .inl (g2)))]) (fun u A1 h => c_L_tries xl D kA ox os ob ot U m P kt2 HH2 HB LL hI2 (sc (3 * k + 2)) u h A1) (va_cwS 2 hts gL_law_L_tries rfl rfl rfl (by decide +kernel) ⟨Nat.le_of_ble_eq_true rfl, Nat.le_of_ble_eq_true rfl⟩) hW (List.Perm.refl _) rfl hl.1 rfl (Nat.le_of_ble_eq_true rfl) dL_law_150 ⟨(show (400 + 200 * k + 14 + 60) + 84 ≤ 600000 by omega), (show (4000 + 2000 * k + 212 + 300) + 1272 ≤ 7302250 by omega)⟩ (fun r_150 S2 X2 H locs hR hW => ?_)
                  obtain ⟨rfl, kt3, HH3, rfl, hI3, rfl⟩ := hR
                  have hW : WX D kA A xs.heap ox os ob ot (U, m, P, kt3, HH3, HB, LL) [(dd, .inl (kA 0, 2, .inl (g2)))] H locs := hW
                  refine xIfEq C (tgt := 160) (by decide) dL_law_153 (by decide) (fun h_153 => ?_) (fun h_153 => ?_)
                  · exact absurd h_153 (by decide)
                  · skip
                    refine W.widen (k := 400 + 200 * (k + 1)) (n := 4000 + 2000 * (k + 1)) (by omega) (by omega) ?_
                    exact J131 U kt3 HH3 g2 hI3 hL2 _ _ hW _ (lv_sub hl [0, 1, 2, 3, 4, 5] rfl)
    refine W.widen (k := 400 + 200 * 0) (n := 4000 + 2000 * 0) (by omega) (by omega) ?_
    exact L59 _ 0 V kt HH g (Nat.lt_succ_self _) (Nat.zero_le _) hI hL _ _ hW _ (lv_sub hl [0, 1, 2, 3, 4, 5] rfl)
  refine lv_bipush (v := nI 36) hx hb dL_law_40 (by decide) ?_
  refine xIcmpLe C (tgt := 50) (by omega) (by decide) dL_law_42 (by decide) (fun h_42 => ?_) (fun h_42 => ?_)
  · skip
    refine lv_aload_n hx hb dL_law_50 rfl (lv_at hl 0 rfl) ?_
    refine va_slen hx hb hX hbl hbA hW.s dL_law_51 ?_
    refine lv_iconst (v := nI 3) hx hb dL_law_52 (by decide) ?_
    refine xIdiv C (by omega) (by decide) (by decide) dL_law_53 ?_
    exact J40 (L / 3) (by omega) _ _ hW _ (lv_sub hl [0, 1, 2, 3] rfl)
  · skip
    refine lv_bipush (v := nI 36) hx hb dL_law_45 (by decide) ?_
    refine lv_goto (tgt := 54) hx hb dL_law_47 (by decide) ?_
    exact J40 36 (by omega) _ _ hW _ (lv_sub hl [0, 1, 2, 3] rfl)
