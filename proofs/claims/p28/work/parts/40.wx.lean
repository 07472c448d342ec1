/-! The law's rows: a world of the class's own cells and the law's arrays, held in one word (WX). -/
abbrev oX (S : Sig) (v : Int32) : Int32 × Sig := (v, S)
def WX (D : va_G) (kA : Nat → ClassId) (A : Nat → Prop) (H0 : Heap) (ox os ob ot : Nat → Nat) (S : Sig) (X : va_W) (H : Heap) (locs : List Loc) : Prop :=
  ∃ u, ClsR kA ox os ob ot S u ∧ va_P D vwCl (u ++ X) H ∧ va_D A (u ++ X) ∧ va_S A H0 H locs
/-- a law's own method's end: what it answers, the class's numbers, the law's arrays -/
def lawQ (kA : Nat → ClassId) (ox os ob ot : Nat → Nat) (R : Int32 → Sig → va_W → Prop) : Int32 → va_W → Prop := fun r v => ∃ S2 u X, v = u ++ X ∧ ClsR kA ox os ob ot S2 u ∧ R r S2 X
def lawQv (kA : Nat → ClassId) (ox os ob ot : Nat → Nat) (R : Sig → va_W → Prop) : va_W → Prop := fun v => ∃ S2 u X, v = u ++ X ∧ ClsR kA ox os ob ot S2 u ∧ R S2 X
section QX
variable {p : Program} {l : Launch} {e : Env} {R : Room} {s : State} {m : MethodId} {args : Array Value} {below : List Frame} {meth : Method} {c : Code} {H : Heap} {locs : List Loc} {cells slots : Nat} {Q : State → Prop}
variable {cc : ByteArray} {pc nL : Nat} {ls : Array Slot} {rest st0 : List Value} {Ts : List Cond} {own : String} {D : va_G} {kA : Nat → ClassId} {A : Nat → Prop} {H0 : Heap} {ox os ob ot : Nat → Nat} {S : Sig} {X : va_W}
/-- a call on the class -/
theorem qV (C : CallFix p m c cc nL s args Ts own) (hN : KN D kA s) (hA : ∀ q : Nat, H0.size ≤ q → A q) {y : MethodName} {bytes : ByteArray} {maxL n index : Nat} {ret : Option FieldType} {wy : List Cond} {rm : Room} {op : Int32 × Sig} {S2 : Sig} {v : Int32} {mc ms : Nat} {As : List Value}
    (hM : ∀ (u : va_W) (A1 : Nat → Prop), ClsR kA ox os ob ot S u → Met l y wy rm (va_Pc (.ref (ox 0) :: As) (xPw D kA A1 u)) (xQi D A1 (fun r v => r = op.1 ∧ ClsR kA ox os ob ot op.2 v)) mc ms A1)
    (he : op = (v, S2))
    (cw : CallW R s args own RX4 index y bytes maxL ret wy rm mc ms n) (hW : WX D kA A H0 ox os ob ot S X H locs) (hn : As.length = n) (hl : ls.size = nL) (hst : st0 = As.reverse ++ .ref (ox 0) :: rest) (h8 : (rest.map fun v => v.category).sum ≤ 8) (hdg : decode cc pc = .ok (.invokevirtual index, 3)) (hf : cells + mc ≤ R.cells ∧ slots + ms ≤ R.slots)
    (kk : ∀ (H1 : Heap) (locs1 : List Loc), WX D kA A H0 ox os ob ot S2 X H1 locs1 → W p l e R s m args below meth c H1 locs1 (cells + mc) (slots + ms) Q (F0 m (pc + 3) ls (.int v :: rest))) : W p l e R s m args below meth c H locs cells slots Q (F0 m pc ls st0) := by
  obtain ⟨u, hc, hP, hD, hS⟩ := hW
  obtain ⟨fs, hat⟩ := cls_at hc
  subst he
  refine xLaw1 hP hD hS hA (va_runV (As := As) (rest := rest) C (hM u _ hc) cw (xPreVw (q0 := 0) hN (va_P1 hP) (va_Da hD) (fun _ h => Or.inr h) rfl hat rfl) rfl hn hl hst (lv_room h8) hdg hf) (fun r w H1 locs1 hq hP hD hS => ?_)
  obtain ⟨rfl, g⟩ := hq
  exact kk _ _ ⟨w, g, hP, hD, hS⟩
theorem qVr (C : CallFix p m c cc nL s args Ts own) (hN : KN D kA s) (hA : ∀ q : Nat, H0.size ≤ q → A q) {y : MethodName} {bytes : ByteArray} {maxL n index : Nat} {ret : Option FieldType} {wy : List Cond} {rm : Room} {op : Int32 × Sig} {S2 : Sig} {v : Int32} {As : List Value}
    (hM : ∀ (u : va_W) (A1 : Nat → Prop), ClsR kA ox os ob ot S u → Met l y wy rm (va_Pc (.ref (ox 0) :: As) (xPw D kA A1 u)) (xQi D A1 (fun r v => r = op.1 ∧ ClsR kA ox os ob ot op.2 v)) 0 0 A1)
    (he : op = (v, S2))
    (cw : CallW R s args own RX4 index y bytes maxL ret wy rm 0 0 n) (hW : WX D kA A H0 ox os ob ot S X H locs) (hn : As.length = n) (hl : ls.size = nL) (hst : st0 = As.reverse ++ .ref (ox 0) :: rest) (h8 : (rest.map fun v => v.category).sum ≤ 8) (hdg : decode cc pc = .ok (.invokevirtual index, 3)) (hf : cells ≤ R.cells ∧ slots ≤ R.slots)
    (kk : ∀ (H1 : Heap) (locs1 : List Loc), WX D kA A H0 ox os ob ot S2 X H1 locs1 → W p l e R s m args below meth c H1 locs1 cells slots Q (F0 m (pc + 3) ls (.int v :: rest))) : W p l e R s m args below meth c H locs cells slots Q (F0 m pc ls st0) :=
  qV C hN hA hM he cw hW hn hl hst h8 hdg hf kk
/-- a call of the law's own, on the class and a part of the law's arrays -/
theorem qS (C : CallFix p m c cc nL s args Ts own) (hN : KN D kA s) (hA : ∀ q : Nat, H0.size ≤ q → A q) {y : MethodName} {bytes : ByteArray} {maxL n index : Nat} {ret : Option FieldType} {wy : List Cond} {rm : Room} {Rp : Int32 → Sig → va_W → Prop} {mc ms : Nat} {As : List Value} {Xc Xr : va_W}
    (hM : ∀ (u : va_W) (A1 : Nat → Prop), ClsR kA ox os ob ot S u → Met l y wy rm (va_Pc As (xPw D kA A1 (u ++ Xc))) (xQi D A1 (lawQ kA ox os ob ot Rp)) mc ms A1)
    (cw : CallB R s args own index y bytes maxL ret wy rm mc ms n ∧ (Cond.static y).before args s = true) (hW : WX D kA A H0 ox os ob ot S X H locs) (hX : X.Perm (Xc ++ Xr)) (hn : As.length = n) (hl : ls.size = nL) (hst : st0 = As.reverse ++ rest) (h8 : (rest.map fun v => v.category).sum ≤ 8) (hdg : decode cc pc = .ok (.invokestatic index, 3)) (hf : cells + mc ≤ R.cells ∧ slots + ms ≤ R.slots)
    (kk : ∀ (r : Int32) (S2 : Sig) (X2 : va_W) (H1 : Heap) (locs1 : List Loc), Rp r S2 X2 → WX D kA A H0 ox os ob ot S2 (X2 ++ Xr) H1 locs1 → W p l e R s m args below meth c H1 locs1 (cells + mc) (slots + ms) Q (F0 m (pc + 3) ls (.int r :: rest))) : W p l e R s m args below meth c H locs cells slots Q (F0 m pc ls st0) := by
  obtain ⟨u, hc, hP, hD, hS⟩ := hW
  have hp : (u ++ X).Perm ((u ++ Xc) ++ Xr) := by rw [List.append_assoc]; exact List.Perm.append_left u hX
  have hP := xPerP hP hp
  have hD := xPerD hD hp
  refine xLaw1 hP hD hS hA (va_runS (As := As) (rest := rest) C (hM u _ hc) cw (xPreSw hN (va_P1 hP) (va_Da hD) (fun _ h => Or.inr h)) rfl hn hl hst (lv_room h8) hdg hf) (fun r w H1 locs1 hq hP hD hS => ?_)
  obtain ⟨S2, u2, X2, rfl, g, hR⟩ := hq
  rw [List.append_assoc] at hP hD
  exact kk _ _ _ _ _ hR ⟨u2, g, hP, hD, hS⟩
theorem xLaw1v {u1 u2 : va_W} {post : va_W → Prop} {a : Array Value} {mc ms : Nat} (hP : va_P D vwCl (u1 ++ u2) H) (hD : va_D A (u1 ++ u2)) (hS : va_S A H0 H locs) (hA : ∀ q : Nat, H0.size ≤ q → A q)
    (hr : va_Run p l e R s m args below meth c H locs cells slots mc ms (F0 m pc ls st0) rest (xQv D (va_A u1 H.size) post a) (va_A u1 H.size))
    (kk : ∀ (u : va_W) (H1 : Heap) (locs1 : List Loc), post u → va_P D vwCl (u ++ u2) H1 → va_D A (u ++ u2) → va_S A H0 H1 locs1 → W p l e R s m args below meth c H1 locs1 (cells + mc) (slots + ms) Q (F0 m (pc + 3) ls rest)) : W p l e R s m args below meth c H locs cells slots Q (F0 m pc ls st0) := by
  refine xWv (L := u1 ++ u2) (tl := []) (wc := u1) (wr := u2) (by rw [List.append_nil]; exact hP) (by rw [List.append_nil]; exact hD) hS hA (List.range u1.length) ((List.range u2.length).map (fun i => u1.length + i)) (rng1 u1 u2) (rng2 u1 u2) (nd_r2 _ _) ?_ hr (fun u H1 locs1 hp hP1 hD1 hS1 => ?_)
  · intro i hi h
    obtain ⟨j, _, rfl⟩ := List.mem_map.mp hi
    have := List.mem_range.mp h; omega
  · rw [List.append_nil] at hP1 hD1
    exact kk u H1 locs1 hp (xPerP hP1 List.perm_append_comm) (xPerD hD1 List.perm_append_comm) hS1
theorem qSv (C : CallFix p m c cc nL s args Ts own) (hN : KN D kA s) (hA : ∀ q : Nat, H0.size ≤ q → A q) {y : MethodName} {bytes : ByteArray} {maxL n index : Nat} {ret : Option FieldType} {wy : List Cond} {rm : Room} {Rp : Sig → va_W → Prop} {mc ms : Nat} {As : List Value} {Xc Xr : va_W}
    (hM : ∀ (u : va_W) (A1 : Nat → Prop), ClsR kA ox os ob ot S u → Met l y wy rm (va_Pc As (xPw D kA A1 (u ++ Xc))) (xQv D A1 (lawQv kA ox os ob ot Rp)) mc ms A1)
    (cw : CallB R s args own index y bytes maxL ret wy rm mc ms n ∧ (Cond.static y).before args s = true) (hW : WX D kA A H0 ox os ob ot S X H locs) (hX : X.Perm (Xc ++ Xr)) (hn : As.length = n) (hl : ls.size = nL) (hst : st0 = As.reverse ++ rest) (h8 : (rest.map fun v => v.category).sum ≤ 8) (hdg : decode cc pc = .ok (.invokestatic index, 3)) (hf : cells + mc ≤ R.cells ∧ slots + ms ≤ R.slots)
    (kk : ∀ (S2 : Sig) (X2 : va_W) (H1 : Heap) (locs1 : List Loc), Rp S2 X2 → WX D kA A H0 ox os ob ot S2 (X2 ++ Xr) H1 locs1 → W p l e R s m args below meth c H1 locs1 (cells + mc) (slots + ms) Q (F0 m (pc + 3) ls rest)) : W p l e R s m args below meth c H locs cells slots Q (F0 m pc ls st0) := by
  obtain ⟨u, hc, hP, hD, hS⟩ := hW
  have hp : (u ++ X).Perm ((u ++ Xc) ++ Xr) := by rw [List.append_assoc]; exact List.Perm.append_left u hX
  have hP := xPerP hP hp
  have hD := xPerD hD hp
  refine xLaw1v hP hD hS hA (va_runS (As := As) (rest := rest) C (hM u _ hc) cw (xPreSw hN (va_P1 hP) (va_Da hD) (fun _ h => Or.inr h)) rfl hn hl hst (lv_room h8) hdg hf) (fun w H1 locs1 hq hP hD hS => ?_)
  obtain ⟨S2, u2, X2, rfl, g, hR⟩ := hq
  rw [List.append_assoc] at hP hD
  exact kk _ _ _ _ hR ⟨u2, g, hP, hD, hS⟩
theorem WX.perm {X2 : va_W} (hW : WX D kA A H0 ox os ob ot S X H locs) (hp : X.Perm X2) : WX D kA A H0 ox os ob ot S X2 H locs := by
  obtain ⟨u, hc, hP, hD, hS⟩ := hW
  have h : (u ++ X).Perm (u ++ X2) := List.Perm.append_left u hp
  exact ⟨u, hc, xPerP hP h, xPerD hD h, hS⟩
theorem WX.one {q0 : Nat} {q : Nat × va_E} (hW : WX D kA A H0 ox os ob ot S X H locs) (he : X[q0]? = some q) : va_P D vwCl [q] H := by
  obtain ⟨u, hc, hP, hD, hS⟩ := hW
  intro k r hk
  match k, hk with
  | 0, hk => cases hk; exact hP _ _ (at_tl he rfl)
  | k + 1, hk => simp at hk
theorem wIald (C : CallFix p m c cc nL s args Ts own) (hN : KN D kA s) (hW : WX D kA A H0 ox os ob ot S X H locs) (q0 : Nat) {a n j : Nat} {f : Nat → Int32} {v : Int32} (he : X[q0]? = some (a, .inl (kA 0, n, .inl f))) (hj : j < n) (hn : n < 2 ^ 31) (hv : f j = v) (hdg : decode cc pc = .ok (.iaload, 1))
    (kk : W p l e R s m args below meth c H locs cells slots Q (F0 m (pc + 1) ls (.int v :: rest))) : W p l e R s m args below meth c H locs cells slots Q (F0 m pc ls (.int (nI j) :: .ref a :: rest)) := by
  obtain ⟨u, hc, hP, hD, hS⟩ := hW
  exact xIald C hN hP (u.length + q0) (at_tl he rfl) hj hn hv hdg kk
theorem wIast (C : CallFix p m c cc nL s args Ts own) (hN : KN D kA s) (hW : WX D kA A H0 ox os ob ot S X H locs) (q0 : Nat) {a n j : Nat} {f : Nat → Int32} {x : Int32} (he : X[q0]? = some (a, .inl (kA 0, n, .inl f))) (hj : j < n) (hn : n < 2 ^ 31) (hdg : decode cc pc = .ok (.iastore, 1))
    (kk : ∀ (H1 : Heap) (locs1 : List Loc), WX D kA A H0 ox os ob ot S (X.set q0 (a, .inl (kA 0, n, .inl (upd f j x)))) H1 locs1 → W p l e R s m args below meth c H1 locs1 cells slots Q (F0 m (pc + 1) ls rest)) : W p l e R s m args below meth c H locs cells slots Q (F0 m pc ls (.int x :: .int (nI j) :: .ref a :: rest)) := by
  obtain ⟨u, hc, hP, hD, hS⟩ := hW
  have e : ∀ z, (u ++ X).set (u.length + q0) z = u ++ X.set q0 z := fun z => by
    rw [List.set_append_right _ _ (Nat.le_add_right _ _), Nat.add_sub_cancel_left]
  refine xIast C hN hP hD hS (u.length + q0) (at_tl he rfl) hj hn hdg (fun H1 locs1 hP hD hS => ?_)
  rw [e] at hP hD
  exact kk _ _ ⟨u, hc, hP, hD, hS⟩
theorem wNewa (C : CallFix p m c cc nL s args Ts own) (hN : KN D kA s) (hW : WX D kA A H0 ox os ob ot S X H locs) (hA : ∀ q : Nat, H0.size ≤ q → A q) {N : Nat} (harr : Cond.arrayClass .int ∈ Ts) (hN2 : N < 2 ^ 20) (hcells : cells + 1 ≤ R.cells) (hslots : slots + N ≤ R.slots) (hdg : decode cc pc = .ok (.newarray .int, 2))
    (kk : ∀ (q : Nat) (H1 : Heap), WX D kA A H0 ox os ob ot S (X ++ [(q, .inl (kA 0, N, .inl (fun _ => 0)))]) H1 locs → W p l e R s m args below meth c H1 locs (cells + 1) (slots + N) Q (F0 m (pc + 2) ls (.ref q :: rest))) : W p l e R s m args below meth c H locs cells slots Q (F0 m pc ls (.int (nI N) :: rest)) := by
  obtain ⟨u, hc, hP, hD, hS⟩ := hW
  refine xNewa C hN hP hD hS hA 0 (N := N) (ty := .int) rfl rfl (fun _ _ h => h) harr rfl (by omega) (by show N * 4 ≤ 536870912; omega) rfl hcells hslots hdg (fun q H1 hP hD hS => ?_)
  rw [List.append_assoc] at hP hD
  exact kk q H1 ⟨u, hc, hP, hD, hS⟩
/-- a reading call on one of the law's arrays, or on none -/
theorem wSro (C : CallFix p m c cc nL s args Ts own) (hN : KN D kA s) {y : MethodName} {bytes : ByteArray} {maxL n index : Nat} {ret : Option FieldType} {wy : List Cond} {rm : Room} {As : List Value} {v : Int32} {q : Nat × va_E} (q0 : Nat) (hM : Met l y wy rm (va_Pc As (xPr D kA [q])) (vp_Si (fun r => r = v)) 0 0 (fun _ => False)) (cw : CallB R s args own index y bytes maxL ret wy rm 0 0 n ∧ (Cond.static y).before args s = true) (hW : WX D kA A H0 ox os ob ot S X H locs) (he : X[q0]? = some q) (hn : As.length = n) (hl : ls.size = nL) (hst : st0 = As.reverse ++ rest) (h8 : (rest.map fun v => v.category).sum ≤ 8) (hdg : decode cc pc = .ok (.invokestatic index, 3)) (hf : cells ≤ R.cells ∧ slots ≤ R.slots)
    (kk : W p l e R s m args below meth c H locs cells slots Q (F0 m (pc + 3) ls (.int v :: rest))) : W p l e R s m args below meth c H locs cells slots Q (F0 m pc ls st0) :=
  xSro C hN (wc := [q]) hM cw (hW.one he) hn hl hst h8 hdg hf kk
theorem wSr0 (C : CallFix p m c cc nL s args Ts own) (hN : KN D kA s) {y : MethodName} {bytes : ByteArray} {maxL n index : Nat} {ret : Option FieldType} {wy : List Cond} {rm : Room} {As : List Value} {v : Int32} (hM : Met l y wy rm (va_Pc As (xPr D kA [])) (vp_Si (fun r => r = v)) 0 0 (fun _ => False)) (cw : CallB R s args own index y bytes maxL ret wy rm 0 0 n ∧ (Cond.static y).before args s = true) (hn : As.length = n) (hl : ls.size = nL) (hst : st0 = As.reverse ++ rest) (h8 : (rest.map fun v => v.category).sum ≤ 8) (hdg : decode cc pc = .ok (.invokestatic index, 3)) (hf : cells ≤ R.cells ∧ slots ≤ R.slots)
    (kk : W p l e R s m args below meth c H locs cells slots Q (F0 m (pc + 3) ls (.int v :: rest))) : W p l e R s m args below meth c H locs cells slots Q (F0 m pc ls st0) :=
  xSro C hN (wc := []) hM cw (fun k q h => by simp at h) hn hl hst h8 hdg hf kk
theorem wRetZ {v : Int32} {Rp : Int32 → Sig → va_W → Prop} (hx : p.tables.exec = Jvm.exec) (hb : c.code = cc) (hr : meth.sig.returnType = some .boolean) (hn : narrow .boolean (.int v) = .int v) (hq : Rp v S X) (hW : WX D kA A s.heap ox os ob ot S X H locs) (hdg : decode cc pc = .ok (.ireturn, 1)) (hlocks : meth.locks = false) : W p l e R s m args below meth c H locs cells slots (MQ below (xQi D A (lawQ kA ox os ob ot Rp)) args s cells slots A) (F0 m pc ls [.int v]) := by
  obtain ⟨u, hc, hP, hD, hS⟩ := hW
  exact xRetZ hx hb hr hn ⟨S, u, X, rfl, hc, hq⟩ hP hD hS hdg hlocks
theorem wRetI {v : Int32} {Rp : Int32 → Sig → va_W → Prop} (hx : p.tables.exec = Jvm.exec) (hb : c.code = cc) (hr : meth.sig.returnType = some .int) (hq : Rp v S X) (hW : WX D kA A s.heap ox os ob ot S X H locs) (hdg : decode cc pc = .ok (.ireturn, 1)) (hlocks : meth.locks = false) : W p l e R s m args below meth c H locs cells slots (MQ below (xQi D A (lawQ kA ox os ob ot Rp)) args s cells slots A) (F0 m pc ls [.int v]) := by
  obtain ⟨u, hc, hP, hD, hS⟩ := hW
  exact xRetI hx hb hr ⟨S, u, X, rfl, hc, hq⟩ hP hD hS hdg hlocks
theorem wRetV {Rp : Sig → va_W → Prop} (hx : p.tables.exec = Jvm.exec) (hb : c.code = cc) (hr : meth.sig.returnType = none) (hq : Rp S X) (hW : WX D kA A s.heap ox os ob ot S X H locs) (hdg : decode cc pc = .ok (.return_, 1)) (hlocks : meth.locks = false) : W p l e R s m args below meth c H locs cells slots (MQ below (xQv D A (lawQv kA ox os ob ot Rp)) args s cells slots A) (F0 m pc ls []) := by
  obtain ⟨u, hc, hP, hD, hS⟩ := hW
  exact xRetV hx hb hr ⟨S, u, X, rfl, hc, hq⟩ hP hD hS hdg hlocks
/-- a law's array may be forgotten -/
theorem WX.drop {X2 : va_W} (hW : WX D kA A H0 ox os ob ot S (X ++ X2) H locs) : WX D kA A H0 ox os ob ot S X H locs := by
  obtain ⟨u, hc, hP, hD, hS⟩ := hW
  rw [← List.append_assoc] at hP hD
  refine ⟨u, hc, va_P1 hP, ?_, hS⟩
  rw [va_D_iff] at hD ⊢
  exact ⟨(List.pairwise_append.mp hD.1).1, fun q hq => hD.2 q (List.mem_append_left _ hq)⟩
/-- a script's cell, read by a method of the law's own -/
def xPx (b L : Nat) (xs : Nat → Int32) (U : State) : Prop := va_X b L xs U U.heap
theorem xPreX {b L : Nat} {xs : Nat → Int32} {As : List Value} (hX : va_X b L xs s H0) (hbl : b < H0.size) (hbA : ¬ A b) (hS : va_S A H0 H locs) : PreS s H (va_Pc As (xPx b L xs)) As :=
  ⟨fun a U g mk h => ⟨h.1, va_X.moved (u := U) (U := U.calling g mk a) (Vm.Alike.refl U.vm) h.2⟩, fun U hU hW => ⟨rfl, by
    show va_X b L xs U U.heap
    rw [hU]; exact (hX.kept (hS.2.1 b hbl hbA)).moved hW.alike⟩⟩
end QX
