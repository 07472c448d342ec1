/-! Rows for what is made: arrays of numbers, of states, objects. -/
section XN
variable {p : Program} {l : Launch} {e : Env} {R : Room} {s : State} {m : MethodId} {args : Array Value} {below : List Frame} {meth : Method} {c : Code} {H : Heap} {locs : List Loc} {cells slots : Nat} {Q : State → Prop}
variable {cc : ByteArray} {pc nL : Nat} {ls : Array Slot} {rest st0 : List Value} {Ts : List Cond} {own : String} {D : va_G} {k : Nat → ClassId} {A : Nat → Prop} {H0 : Heap} {ws : va_W}
theorem xNewa (C : CallFix p m c cc nL s args Ts own) (hN : KN D k s) (hP : va_P D vwCl ws H) (hD : va_D A ws) (hS : va_S A H0 H locs) (hA : ∀ q : Nat, H0.size ≤ q → A q) (t0 : Nat) {atype : ArrayType} {ty : FieldType} {N : Nat} {z : Int32} (hty : newarray.typeOf atype = ty) (hts : (xTys k)[t0]? = some (k t0, ty)) (hra : ∀ (U : State) (cA : ClassId), va_RA U cA ty → U.vm.findClass ("[" ++ ty.toString) = some cA) (harr : Cond.arrayClass ty ∈ Ts) (hdef : defaultValue ty = .int 0) (hN2 : N < 2 ^ 31) (hbytes : N * componentBytes ty ≤ 536870912) (hz : nI N = z) (hcells : cells + 1 ≤ R.cells) (hslots : slots + N ≤ R.slots) (hdg : decode cc pc = .ok (.newarray atype, 2))
    (kk : ∀ (q : Nat) (H1 : Heap), va_P D vwCl (ws ++ [(q, .inl (k t0, N, .inl (fun _ => 0)))]) H1 → va_D A (ws ++ [(q, .inl (k t0, N, .inl (fun _ => 0)))]) → va_S A H0 H1 locs → W p l e R s m args below meth c H1 locs (cells + 1) (slots + N) Q (F0 m (pc + 2) ls (.ref q :: rest))) : W p l e R s m args below meth c H locs cells slots Q (F0 m pc ls (.int z :: rest)) := by
  subst hz
  subst hty
  refine va_newa (a0 := (N, .inl (fun _ => 0))) (N' := N) C.1 C.2.1 (C.2.2.2.2 _ harr) rfl hN.1 hP hD hS hA (fun cA => by rw [vp_cell_i, hdef]) (nI_pos hN2) (nI_clamp hN2) hbytes hcells hslots hdg (fun q cA H1 hK1 hP1 hD1 hS1 => ?_)
  have e1 := hra _ _ (hN.1.2 t0 _ hts).2
  have e2 := hra _ _ (hK1.2 4 (cA, newarray.typeOf atype) rfl).2
  have e : cA = k t0 := Option.some.inj (e2.symm.trans e1)
  subst e
  exact kk q H1 hP1 hD1 hS1
theorem xNewq (C : CallFix p m c cc nL s args Ts own) (hN : KN D k s) (hP : va_P D vwCl ws H) (hD : va_D A ws) (hS : va_S A H0 H locs) (hA : ∀ q : Nat, H0.size ≤ q → A q) {N index : Nat} {z : Int32} (hcl : Cond.classLink own index RX3 ∈ Ts) (hN2 : N < 2 ^ 31) (hbytes : N * 4 ≤ 536870912) (hz : nI N = z) (hcells : cells + 1 ≤ R.cells) (hslots : slots + N ≤ R.slots) (hdg : decode cc pc = .ok (.anewarray index, 3))
    (kk : ∀ (q : Nat) (H1 : Heap), va_P D vwCl (ws ++ [(q, .inl (k 3, N, .inr (.inr (.inr (.inr (fun _ => none))))))]) H1 → va_D A (ws ++ [(q, .inl (k 3, N, .inr (.inr (.inr (.inr (fun _ => none))))))]) → va_S A H0 H1 locs → W p l e R s m args below meth c H1 locs (cells + 1) (slots + N) Q (F0 m (pc + 3) ls (.ref q :: rest))) : W p l e R s m args below meth c H locs cells slots Q (F0 m pc ls (.int z :: rest)) := by
  subst hz
  refine va_newq C.1 C.2.1 C.2.2.2.1 (C.2.2.2.2 _ hcl) hN.2.2.2.2.2.2.2.2.2.2.2.2.2 hN.1 hP hD hS hA (nI_pos hN2) (nI_clamp hN2) hbytes hcells hslots hdg (fun q cA H1 hK1 hP1 hD1 hS1 => ?_)
  obtain ⟨_, _, _, _, _, e1⟩ := (hN.1.2 3 (k 3, .object RX3) rfl).2
  obtain ⟨_, _, _, _, _, e2⟩ := (hK1.2 4 (cA, .object RX3) rfl).2
  have e : cA = k 3 := Option.some.inj (e2.symm.trans e1)
  subst e
  exact kk q H1 hP1 hD1 hS1
theorem xNew (C : CallFix p m c cc nL s args Ts own) (hN : KN D k s) (hP : va_P D vwCl ws H) (hD : va_D A ws) (hS : va_S A H0 H locs) (hA : ∀ q : Nat, H0.size ≤ q → A q) {Cn : String} {T : u_T} {N ci index : Nat} {ty : Nat → FieldType} {fs : List Value} (hc : vwCl[ci]? = some (Cn, T, N)) (hin : ∀ w ∈ u_ws Cn T N, w ∈ Ts) (hty : ∀ j, j < N → parseFieldDescriptor (T j).2.2.1 = some (ty j)) (hcl : Cond.classLink own index Cn ∈ Ts) (hinst : Cond.instantiable Cn N ∈ Ts) (hini : Cond.initialized Cn ∈ Ts) (hfs : ∀ j, j < N → defaultValue (ty j) = vp_V fs j) (hcells : cells + 1 ≤ R.cells) (hslots : slots + N ≤ R.slots) (hdg : decode cc pc = .ok (.new index, 3))
    (kk : ∀ (q : Nat) (H1 : Heap), va_P D vwCl (ws ++ [(q, .inr (ci, fs))]) H1 → va_D A (ws ++ [(q, .inr (ci, fs))]) → va_S A H0 H1 locs → W p l e R s m args below meth c H1 locs (cells + 1) (slots + N) Q (F0 m (pc + 3) ls (.ref q :: rest))) : W p l e R s m args below meth c H locs cells slots Q (F0 m pc ls rest) :=
  va_new C.1 C.2.1 C.2.2.2.2 hin ty hty C.2.2.2.1 (C.2.2.2.2 _ hcl) (C.2.2.2.2 _ hinst) (C.2.2.2.2 _ hini) hN.1 hP hD hS hA hc hfs hcells hslots hdg kk
theorem xAast (C : CallFix p m c cc nL s args Ts own) (hN : KN D k s) (hP : va_P D vwCl ws H) (hD : va_D A ws) (hS : va_S A H0 H locs) (q0 qk : Nat) {a n j v : Nat} {vs : List Value} {f : Nat → Option Nat} (he : ws[q0]? = some (a, .inl (k 3, n, .inr (.inr (.inr (.inr f)))))) (hv : ws[qk]? = some (v, .inr (3, vs))) (hj : j < n) (hn : n < 2 ^ 31) (hdg : decode cc pc = .ok (.aastore, 1))
    (kk : ∀ (H1 : Heap) (locs1 : List Loc), va_P D vwCl (ws.set q0 (a, .inl (k 3, n, .inr (.inr (.inr (.inr (va_up f j (some v)))))))) H1 → va_D A (ws.set q0 (a, .inl (k 3, n, .inr (.inr (.inr (.inr (va_up f j (some v)))))))) → va_S A H0 H1 locs1 → W p l e R s m args below meth c H1 locs1 cells slots Q (F0 m (pc + 1) ls rest)) : W p l e R s m args below meth c H locs cells slots Q (F0 m pc ls (.ref v :: .int (nI j) :: .ref a :: rest)) :=
  va_astq C.1 C.2.1 hN.1 hP hD hS q0 3 qk 3 (r := (RX3, TX3, 2)) he rfl hv rfl (vp_in_nI hj hn) hdg (by rw [nI_clamp (Nat.lt_trans hj hn)]; exact kk)
theorem xAastN (C : CallFix p m c cc nL s args Ts own) (hN : KN D k s) (hP : va_P D vwCl ws H) (hD : va_D A ws) (hS : va_S A H0 H locs) (q0 : Nat) {a n j : Nat} {f : Nat → Option Nat} (he : ws[q0]? = some (a, .inl (k 3, n, .inr (.inr (.inr (.inr f)))))) (hj : j < n) (hn : n < 2 ^ 31) (hdg : decode cc pc = .ok (.aastore, 1))
    (kk : ∀ (H1 : Heap) (locs1 : List Loc), va_P D vwCl (ws.set q0 (a, .inl (k 3, n, .inr (.inr (.inr (.inr (va_up f j none))))))) H1 → va_D A (ws.set q0 (a, .inl (k 3, n, .inr (.inr (.inr (.inr (va_up f j none))))))) → va_S A H0 H1 locs1 → W p l e R s m args below meth c H1 locs1 cells slots Q (F0 m (pc + 1) ls rest)) : W p l e R s m args below meth c H locs cells slots Q (F0 m pc ls (.null :: .int (nI j) :: .ref a :: rest)) :=
  va_astqN C.1 C.2.1 hN.1 hP hD hS q0 3 he rfl (vp_in_nI hj hn) hdg (by rw [nI_clamp (Nat.lt_trans hj hn)]; exact kk)
end XN
def zF : Nat → Nat → Int32 := fun _ _ => 0
def ad7 (h a b c d e f : Nat) : Nat → Nat := fun i => match i with
  | 0 => h
  | 1 => a
  | 2 => b
  | 3 => c
  | 4 => d
  | 5 => e
  | _ => f
def ad14 (h : Nat) (a b : Nat → Nat) : Nat → Nat := fun i => match i with
  | 0 => h
  | 1 => a 0
  | 2 => a 1
  | 3 => a 2
  | 4 => a 3
  | 5 => a 4
  | 6 => a 5
  | 7 => a 6
  | 8 => b 0
  | 9 => b 1
  | 10 => b 2
  | 11 => b 3
  | 12 => b 4
  | _ => b 5
def doneG (g : Nat → Nat → Int32) (i : Nat) : Nat → Nat → Int32 := fun w => match w with
  | 2 => upd (g 2) i (g 2 i + nI 1)
  | _ => g w
def refG (g : Nat → Nat → Int32) (i k : Nat) : Nat → Nat → Int32 := fun w => match w with
  | 3 => upd (g 3) i (g 3 i + nI 1)
  | 4 => upd (g 4) k (g 4 k + nI 1)
  | _ => g w
abbrev stW (kA : Nat → ClassId) (a : Nat → Nat) (f : Nat → Nat → Int32) (n : Int32) (g : Nat → Nat → Int32) (z dn : Int32) : va_W := ((a 0), .inr (3, [.ref (a 1), .ref (a 8)])) :: (rulW kA (fun i => a (i + 1)) f n ++ gldW kA (fun i => a (i + 8)) g z dn)
