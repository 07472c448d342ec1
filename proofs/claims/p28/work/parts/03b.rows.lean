/-! Rows of this claim's own: the context of a walk, numbers as nI of a Nat, calls in one row. -/
def Nests (U : State) : Prop :=
  va_Nw (.methodLinkNest RX4 11 yX3_init "LayeredCharters") U ∧ va_Nw (.methodLinkNest RX3 9 yX2_init "LayeredCharters") U ∧ va_Nw (.methodLinkNest RX3 18 yX0_init "LayeredCharters") U ∧ va_Nw (.methodLinkNest RX4 18 yX1_init "LayeredCharters") U ∧ va_Nw (.methodLinkNest RX4 36 yX2_init "LayeredCharters") U ∧ va_Nw (.methodLinkNest RX2 34 yX4_copyRow "LayeredCharters") U ∧ va_Nw (.methodLinkNest RX0 34 yX4_copyRow "LayeredCharters") U ∧ va_Nw (.methodLinkNest RX2 38 yX4_pairsOf "LayeredCharters") U ∧ va_Nw (.methodLinkNest RX2 46 yX4_closeGap "LayeredCharters") U ∧ va_Nw (.methodLinkNest RX4 11 yX3_init "LayeredCharters") U ∧ va_Nw (.methodLinkNest RX0 42 yX4_closeGap "LayeredCharters") U ∧ va_Nw (.methodLinkNest RX0 46 yX4_isBetween "LayeredCharters") U ∧ va_AO RX3 U
abbrev xTys (k : Nat → ClassId) : List (ClassId × FieldType) := [(k 0, .int), (k 1, .char), (k 2, .int), (k 3, .object RX3)]
def KN (D : va_G) (k : Nat → ClassId) (U : State) : Prop := va_K D vwCl (xTys k) U ∧ Nests U
theorem Nests.warm {s U : State} (hW : s.WarmedH U.vm) (h : Nests s) : Nests U := by
  obtain ⟨h1, h2, h3, h4, h5, h6, h7, h8, h9, h10, h11, h12, h13⟩ := h
  exact ⟨h1.warmM hW, h2.warmM hW, h3.warmM hW, h4.warmM hW, h5.warmM hW, h6.warmM hW, h7.warmM hW, h8.warmM hW, h9.warmM hW, h10.warmM hW, h11.warmM hW, h12.warmM hW, h13.moved hW.alike⟩
theorem Nests.calling {U : State} {g : JFrame} {mk : MethodId} {a : Array Value} (h : Nests U) : Nests (U.calling g mk a) := by
  obtain ⟨h1, h2, h3, h4, h5, h6, h7, h8, h9, h10, h11, h12, h13⟩ := h
  exact ⟨h1.same rfl rfl, h2.same rfl rfl, h3.same rfl rfl, h4.same rfl rfl, h5.same rfl rfl, h6.same rfl rfl, h7.same rfl rfl, h8.same rfl rfl, h9.same rfl rfl, h10.same rfl rfl, h11.same rfl rfl, h12.same rfl rfl, h13.moved (Vm.Alike.refl U.vm)⟩
theorem KN.warm {D : va_G} {k : Nat → ClassId} {s U : State} (hW : s.WarmedH U.vm) (h : KN D k s) : KN D k U := ⟨va_K.moved hW.alike h.1, h.2.warm hW⟩
theorem KN.calling {D : va_G} {k : Nat → ClassId} {U : State} {g : JFrame} {mk : MethodId} {a : Array Value} (h : KN D k U) : KN D k (U.calling g mk a) := ⟨va_K.moved (u := U) (U := U.calling g mk a) (Vm.Alike.refl U.vm) h.1, h.2.calling⟩
/-- a reading method's start: its world, and the tables -/
def xPr (D : va_G) (k : Nat → ClassId) (ws : va_W) (U : State) : Prop := va_P D vwCl ws U.heap ∧ KN D k U
/-- a writing method's start: its world is apart and lies in A, and what is new lies in A -/
def xPw (D : va_G) (k : Nat → ClassId) (A : Nat → Prop) (ws : va_W) (U : State) : Prop := va_P D vwCl ws U.heap ∧ KN D k U ∧ va_D A ws ∧ ∀ q : Nat, U.heap.size ≤ q → A q
def xB (D : va_G) (A : Nat → Prop) (u : va_W) (t : State) : Prop := va_P D vwCl u t.heap ∧ va_D A u
abbrev xQi (D : va_G) (A : Nat → Prop) (post : Int32 → va_W → Prop) : Array Value → State → Outcome → State → Prop := va_Qi post (xB D A) A
abbrev xQv (D : va_G) (A : Nat → Prop) (post : va_W → Prop) : Array Value → State → Outcome → State → Prop := va_Qv post (xB D A) A
theorem xPr.calling {D : va_G} {k : Nat → ClassId} {ws : va_W} {U : State} {g : JFrame} {mk : MethodId} {a : Array Value} (h : xPr D k ws U) : xPr D k ws (U.calling g mk a) := ⟨h.1, h.2.calling⟩
theorem xPw.calling {D : va_G} {k : Nat → ClassId} {A : Nat → Prop} {ws : va_W} {U : State} {g : JFrame} {mk : MethodId} {a : Array Value} (h : xPw D k A ws U) : xPw D k A ws (U.calling g mk a) := ⟨h.1, h.2.1.calling, h.2.2.1, h.2.2.2⟩
theorem xRun {p : Program} {l : Launch} {e : Env} {R : Room} {s : State} {m : MethodId} {args : Array Value} {below : List Frame} {meth : Method} {c : Code} {H : Heap} {locs : List Loc} {cells slots mc ms : Nat} {g : JFrame} {rest : List Value} {Qa : State → Outcome → State → Prop} {free : Addr → Prop} (h : va_Run p l e R s m args below meth c H locs cells slots mc ms g rest Qa free) : CallRun p l e R s m args below meth c H locs cells slots mc ms g rest Qa free := fun T hT X => by
  obtain ⟨v, a, t, T', L, h1, h2, h3, h4, _, h6, h7⟩ := h T hT X
  exact ⟨v, a, t, T', L, h1, h2, h3, h4, h6, h7⟩
/-- a world cut in two: what stays and what a callee takes, with a tail of any length; behind the call -/
theorem xJoin {A0 : Nat → Prop} {D : va_G} {cl : List vw_C} {L tl wc wr w1 : va_W} {H H1 : Heap} (hP : va_P D cl (L ++ tl) H) (hD : va_D A0 (L ++ tl)) (isC isR : List Nat) (hC : isC.map (fun i => L[i]?) = wc.map some) (hR : isR.map (fun i => L[i]?) = wr.map some) (hn : va_nd isR = true) (hdis : ∀ i ∈ isR, i ∉ isC)
    (hk : ∀ q : Nat, q < H.size → ¬ va_A wc H.size q → H1[q]? = H[q]?) (hF : ∀ q, va_A wc H.size q → A0 q) (hP1 : va_P D cl w1 H1) (hD1 : va_D (va_A wc H.size) w1) : va_P D cl (wr ++ w1 ++ tl) H1 ∧ va_D A0 (wr ++ w1 ++ tl) := by
  have atL : ∀ {is : List Nat} {w : va_W}, is.map (fun i => L[i]?) = w.map some → ∀ (k : Nat) (q : Nat × va_E), w[k]? = some q → ∃ i, is[k]? = some i ∧ L[i]? = some q := by
    intro is w hs k q hq
    have h1 : (is.map (fun i => L[i]?))[k]? = some (some q) := by rw [hs, List.getElem?_map, hq]; rfl
    rw [List.getElem?_map] at h1
    cases hi : is[k]? with
    | none => rw [hi] at h1; cases h1
    | some i => rw [hi] at h1; exact ⟨i, rfl, Option.some.inj h1⟩
  have inL : ∀ {i : Nat} {q : Nat × va_E}, L[i]? = some q → (L ++ tl)[i]? = some q := by
    intro i q h
    have hl := (List.getElem?_eq_some_iff.mp h).1
    rw [List.getElem?_append_left hl]; exact h
  have inT : ∀ {i : Nat} {q : Nat × va_E}, tl[i]? = some q → (L ++ tl)[L.length + i]? = some q := by
    intro i q h
    rw [List.getElem?_append_right (by omega), Nat.add_sub_cancel_left]; exact h
  have nA : ∀ {j : Nat} {q : Nat × va_E}, (L ++ tl)[j]? = some q → (∀ i ∈ isC, i < L.length → j ≠ i) → q.1 < H.size ∧ ¬ va_A wc H.size q.1 := by
    intro j q hj hne
    have hl := (hP j q hj).lt
    refine ⟨hl, fun h => ?_⟩
    rcases h with ⟨k2, e, h⟩ | h
    · obtain ⟨i, h3, h4⟩ := atL hC k2 (q.1, e) h
      exact hne i (List.mem_of_getElem? h3) (List.getElem?_eq_some_iff.mp h4).1 (hD.1 j i q (q.1, e) hj (inL h4) rfl)
    · omega
  have apR : ∀ (k : Nat) (q : Nat × va_E), wr[k]? = some q → ∃ i ∈ isR, L[i]? = some q ∧ q.1 < H.size ∧ ¬ va_A wc H.size q.1 := by
    intro k q hq
    obtain ⟨i, h1, h2⟩ := atL hR k q hq
    have hi := List.mem_of_getElem? h1
    exact ⟨i, hi, h2, nA (inL h2) (fun j hj _ hij => hdis i hi (by rw [hij]; exact hj))⟩
  have apT : ∀ (k : Nat) (q : Nat × va_E), tl[k]? = some q → q.1 < H.size ∧ ¬ va_A wc H.size q.1 := by
    intro k q hq
    exact nA (inT hq) (fun j _ hl hij => by omega)
  have hDR : va_D A0 wr := by
    refine hD.sub (ws' := wr) isR hn ?_
    rw [← hR]
    apply List.map_congr_left
    intro i hi
    obtain ⟨k, hk⟩ := List.getElem?_of_mem hi
    have h1 : (isR.map (fun i => L[i]?))[k]? = some (L[i]?) := by rw [List.getElem?_map, hk]; rfl
    rw [hR, List.getElem?_map] at h1
    cases hw : wr[k]? with
    | none => rw [hw] at h1; cases h1
    | some q =>
      rw [hw] at h1
      have h2 : L[i]? = some q := (Option.some.inj h1).symm
      rw [inL h2, h2]
  have hDT : va_D A0 tl := by
    refine ⟨fun i j a b hi hj hab => ?_, fun i a hi => hD.2 _ a (inT hi)⟩
    have := hD.1 _ _ a b (inT hi) (inT hj) hab
    omega
  refine ⟨va_P.app (va_P.app (fun k q hq => ?_) hP1) (fun k q hq => ?_), va_D.app (va_D.app hDR (hD1.weaken (fun k q _ h => hF q.1 h)) (fun i j x y hx hy hxy => ?_)) hDT (fun i j x y hx hy hxy => ?_)⟩
  · obtain ⟨i, h1, h2, g1, g2⟩ := apR k q hq
    exact (hP i q (inL h2)).kept (hk q.1 g1 g2)
  · obtain ⟨g1, g2⟩ := apT k q hq
    exact (hP _ q (inT hq)).kept (hk q.1 g1 g2)
  · obtain ⟨_, _, _, g1, g2⟩ := apR i x hx
    exact g2 (by rw [hxy]; exact hD1.2 j y hy)
  · obtain ⟨g1, g2⟩ := apT j y hy
    rcases List.mem_append.mp (List.mem_of_getElem? hx) with h | h
    · obtain ⟨i2, h⟩ := List.getElem?_of_mem h
      obtain ⟨i3, _, h2, _, _⟩ := apR i2 x h
      have hl := (List.getElem?_eq_some_iff.mp h2).1
      have := hD.1 _ _ x y (inL h2) (inT hy) hxy
      omega
    · obtain ⟨i2, h⟩ := List.getElem?_of_mem h
      exact g2 (by rw [← hxy]; exact hD1.2 i2 x h)
theorem xSubL {D : va_G} {cl : List vw_C} {L tl wc : va_W} {H : Heap} (hP : va_P D cl (L ++ tl) H) (isC : List Nat) (hC : isC.map (fun i => L[i]?) = wc.map some) : va_P D cl wc H := by
  intro k q hq
  have h1 : (isC.map (fun i => L[i]?))[k]? = some (some q) := by rw [hC, List.getElem?_map, hq]; rfl
  rw [List.getElem?_map] at h1
  cases hi : isC[k]? with
  | none => rw [hi] at h1; cases h1
  | some i =>
    rw [hi] at h1
    have h2 : L[i]? = some q := Option.some.inj h1
    have hl := (List.getElem?_eq_some_iff.mp h2).1
    exact hP i q (by rw [List.getElem?_append_left hl]; exact h2)
theorem xSubD {A : Nat → Prop} {L tl wc : va_W} (hD : va_D A (L ++ tl)) (isC : List Nat) (hn : va_nd isC = true) (hC : isC.map (fun i => L[i]?) = wc.map some) : va_D A wc := by
  refine hD.sub (ws' := wc) isC hn ?_
  rw [← hC]
  apply List.map_congr_left
  intro i hi
  obtain ⟨k, hk⟩ := List.getElem?_of_mem hi
  have h1 : (isC.map (fun i => L[i]?))[k]? = some (L[i]?) := by rw [List.getElem?_map, hk]; rfl
  rw [hC, List.getElem?_map] at h1
  cases hw : wc[k]? with
  | none => rw [hw] at h1; cases h1
  | some q =>
    rw [hw] at h1
    have h2 : L[i]? = some q := (Option.some.inj h1).symm
    have hl := (List.getElem?_eq_some_iff.mp h2).1
    rw [List.getElem?_append_left hl]
theorem xFreeL {A0 : Nat → Prop} {L tl wc : va_W} {H0 H : Heap} {locs : List Loc} (hD : va_D A0 (L ++ tl)) (hS : va_S A0 H0 H locs) (hA : ∀ q, H0.size ≤ q → A0 q) (isC : List Nat) (hC : isC.map (fun i => L[i]?) = wc.map some) : ∀ q, va_A wc H.size q → A0 q := by
  intro q h
  rcases h with ⟨k, e, h⟩ | h
  · have h1 : (isC.map (fun i => L[i]?))[k]? = some (some (q, e)) := by rw [hC, List.getElem?_map, h]; rfl
    rw [List.getElem?_map] at h1
    cases hi : isC[k]? with
    | none => rw [hi] at h1; cases h1
    | some i =>
      rw [hi] at h1
      have h2 : L[i]? = some (q, e) := Option.some.inj h1
      have hl := (List.getElem?_eq_some_iff.mp h2).1
      exact hD.2 i (q, e) (by rw [List.getElem?_append_left hl]; exact h2)
  · exact hA q (Nat.le_trans hS.1 h)
section XR
variable {p : Program} {l : Launch} {e : Env} {R : Room} {s : State} {m : MethodId} {args : Array Value} {below : List Frame} {meth : Method} {c : Code} {H : Heap} {locs : List Loc} {cells slots : Nat} {Q : State → Prop}
variable {cc : ByteArray} {pc nL : Nat} {ls : Array Slot} {rest st0 : List Value} {Ts : List Cond} {own : String} {D : va_G} {k : Nat → ClassId} {A : Nat → Prop} {H0 : Heap} {ws : va_W}
theorem xTop {x y : Int32} (h : x = y) (kk : W p l e R s m args below meth c H locs cells slots Q (F0 m pc ls (.int y :: rest))) : W p l e R s m args below meth c H locs cells slots Q (F0 m pc ls (.int x :: rest)) := h ▸ kk
theorem xIadd (C : CallFix p m c cc nL s args Ts own) {a b : Nat} (hdg : decode cc pc = .ok (.iadd, 1)) (kk : W p l e R s m args below meth c H locs cells slots Q (F0 m (pc + 1) ls (.int (nI (a + b)) :: rest))) : W p l e R s m args below meth c H locs cells slots Q (F0 m pc ls (.int (nI b) :: .int (nI a) :: rest)) :=
  lv_iadd C.1 C.2.1 hdg (by rw [nI_add]; exact kk)
theorem xIsub (C : CallFix p m c cc nL s args Ts own) {a b : Nat} (h : b ≤ a) (hdg : decode cc pc = .ok (.isub, 1)) (kk : W p l e R s m args below meth c H locs cells slots Q (F0 m (pc + 1) ls (.int (nI (a - b)) :: rest))) : W p l e R s m args below meth c H locs cells slots Q (F0 m pc ls (.int (nI b) :: .int (nI a) :: rest)) :=
  lv_isub C.1 C.2.1 hdg (by rw [pk_sub h]; exact kk)
theorem xImul (C : CallFix p m c cc nL s args Ts own) {a b : Nat} (hdg : decode cc pc = .ok (.imul, 1)) (kk : W p l e R s m args below meth c H locs cells slots Q (F0 m (pc + 1) ls (.int (nI (a * b)) :: rest))) : W p l e R s m args below meth c H locs cells slots Q (F0 m pc ls (.int (nI b) :: .int (nI a) :: rest)) :=
  lv_imul C.1 C.2.1 hdg (by rw [pk_mul]; exact kk)
theorem xIdiv (C : CallFix p m c cc nL s args Ts own) {a b : Nat} (ha : a < 2 ^ 31) (h0 : 0 < b) (hb : b < 2 ^ 31) (hdg : decode cc pc = .ok (.idiv, 1)) (kk : W p l e R s m args below meth c H locs cells slots Q (F0 m (pc + 1) ls (.int (nI (a / b)) :: rest))) : W p l e R s m args below meth c H locs cells slots Q (F0 m pc ls (.int (nI b) :: .int (nI a) :: rest)) :=
  lv_idiv C.1 C.2.1 hdg (nI_ne0 h0 hb) (by rw [pk_div ha h0 hb]; exact kk)
theorem xIrem (C : CallFix p m c cc nL s args Ts own) {a b : Nat} (ha : a < 2 ^ 31) (h0 : 0 < b) (hb : b < 2 ^ 31) (hdg : decode cc pc = .ok (.irem, 1)) (kk : W p l e R s m args below meth c H locs cells slots Q (F0 m (pc + 1) ls (.int (nI (a % b)) :: rest))) : W p l e R s m args below meth c H locs cells slots Q (F0 m pc ls (.int (nI b) :: .int (nI a) :: rest)) :=
  t_irem C.1 C.2.1 hdg (nI_ne0 h0 hb) (pk_rem ha h0 hb) kk
theorem xIinc (C : CallFix p m c cc nL s args Ts own) {i kx d n : Nat} {z : Int} {lv lv' : List (Nat × Value)} (hdg : decode cc pc = .ok (.iinc i z, 3)) (h : lv_has ls nL lv) (hk : lv[kx]? = some (i, .int (nI n))) (hz : Int32.ofInt z = nI d) (hn : i < nL) (hl : (i, Value.int (nI (n + d))) :: lv.filter (fun q => !(q.1 == i) && !(q.1 + 1 == i && q.2.category == 2)) = lv')
    (kk : ∀ ls' : Array Slot, lv_has ls' nL lv' → W p l e R s m args below meth c H locs cells slots Q (F0 m (pc + 3) ls' rest)) : W p l e R s m args below meth c H locs cells slots Q (F0 m pc ls rest) :=
  lv_iinc C.1 C.2.1 hdg h hk (by rw [hz, nI_add]) hn hl kk
theorem xIdec (C : CallFix p m c cc nL s args Ts own) {i kx n : Nat} {lv lv' : List (Nat × Value)} (h1 : 1 ≤ n) (hdg : decode cc pc = .ok (.iinc i (-1), 3)) (h : lv_has ls nL lv) (hk : lv[kx]? = some (i, .int (nI n))) (hn : i < nL) (hl : (i, Value.int (nI (n - 1))) :: lv.filter (fun q => !(q.1 == i) && !(q.1 + 1 == i && q.2.category == 2)) = lv')
    (kk : ∀ ls' : Array Slot, lv_has ls' nL lv' → W p l e R s m args below meth c H locs cells slots Q (F0 m (pc + 3) ls' rest)) : W p l e R s m args below meth c H locs cells slots Q (F0 m pc ls rest) :=
  lv_iinc C.1 C.2.1 hdg h hk (by
    obtain ⟨n', rfl⟩ : ∃ n', n = n' + 1 := ⟨n - 1, by omega⟩
    rw [Nat.add_sub_cancel]; exact pk_m1 n') hn hl kk
theorem xIcmpEq (C : CallFix p m c cc nL s args Ts own) {a b : Nat} {off : Int} {tgt : Nat} (ha : a < 2 ^ 31) (hb : b < 2 ^ 31) (hdg : decode cc pc = .ok (.if_icmp .eq off, 3)) (ht : (pc : Int) + off = (tgt : Int)) (kt : a = b → W p l e R s m args below meth c H locs cells slots Q (F0 m tgt ls rest)) (kf : a ≠ b → W p l e R s m args below meth c H locs cells slots Q (F0 m (pc + 3) ls rest)) : W p l e R s m args below meth c H locs cells slots Q (F0 m pc ls (.int (nI b) :: .int (nI a) :: rest)) :=
  lv_icmp_eq C.1 C.2.1 hdg ht (fun h => kt ((nI_eq ha hb).mp h)) (fun h => kf (fun q => h ((nI_eq ha hb).mpr q)))
theorem xIcmpNe (C : CallFix p m c cc nL s args Ts own) {a b : Nat} {off : Int} {tgt : Nat} (ha : a < 2 ^ 31) (hb : b < 2 ^ 31) (hdg : decode cc pc = .ok (.if_icmp .ne off, 3)) (ht : (pc : Int) + off = (tgt : Int)) (kt : a ≠ b → W p l e R s m args below meth c H locs cells slots Q (F0 m tgt ls rest)) (kf : a = b → W p l e R s m args below meth c H locs cells slots Q (F0 m (pc + 3) ls rest)) : W p l e R s m args below meth c H locs cells slots Q (F0 m pc ls (.int (nI b) :: .int (nI a) :: rest)) :=
  lv_icmp_ne C.1 C.2.1 hdg ht (fun h => kt (fun q => h ((nI_eq ha hb).mpr q))) (fun h => kf ((nI_eq ha hb).mp h))
theorem xIcmpLt (C : CallFix p m c cc nL s args Ts own) {a b : Nat} {off : Int} {tgt : Nat} (ha : a < 2 ^ 31) (hb : b < 2 ^ 31) (hdg : decode cc pc = .ok (.if_icmp .lt off, 3)) (ht : (pc : Int) + off = (tgt : Int)) (kt : a < b → W p l e R s m args below meth c H locs cells slots Q (F0 m tgt ls rest)) (kf : b ≤ a → W p l e R s m args below meth c H locs cells slots Q (F0 m (pc + 3) ls rest)) : W p l e R s m args below meth c H locs cells slots Q (F0 m pc ls (.int (nI b) :: .int (nI a) :: rest)) :=
  lv_icmp_lt C.1 C.2.1 hdg ht (fun h => kt ((nI_ltI ha hb).mp h)) (fun h => kf (Nat.not_lt.mp (fun q => h ((nI_ltI ha hb).mpr q))))
theorem xIcmpGe (C : CallFix p m c cc nL s args Ts own) {a b : Nat} {off : Int} {tgt : Nat} (ha : a < 2 ^ 31) (hb : b < 2 ^ 31) (hdg : decode cc pc = .ok (.if_icmp .ge off, 3)) (ht : (pc : Int) + off = (tgt : Int)) (kt : b ≤ a → W p l e R s m args below meth c H locs cells slots Q (F0 m tgt ls rest)) (kf : a < b → W p l e R s m args below meth c H locs cells slots Q (F0 m (pc + 3) ls rest)) : W p l e R s m args below meth c H locs cells slots Q (F0 m pc ls (.int (nI b) :: .int (nI a) :: rest)) :=
  lv_icmp_ge C.1 C.2.1 hdg ht (fun h => kt ((nI_leI hb ha).mp h)) (fun h => kf (Nat.not_le.mp (fun q => h ((nI_leI hb ha).mpr q))))
theorem xIcmpGt (C : CallFix p m c cc nL s args Ts own) {a b : Nat} {off : Int} {tgt : Nat} (ha : a < 2 ^ 31) (hb : b < 2 ^ 31) (hdg : decode cc pc = .ok (.if_icmp .gt off, 3)) (ht : (pc : Int) + off = (tgt : Int)) (kt : b < a → W p l e R s m args below meth c H locs cells slots Q (F0 m tgt ls rest)) (kf : a ≤ b → W p l e R s m args below meth c H locs cells slots Q (F0 m (pc + 3) ls rest)) : W p l e R s m args below meth c H locs cells slots Q (F0 m pc ls (.int (nI b) :: .int (nI a) :: rest)) :=
  lv_icmp_gt C.1 C.2.1 hdg ht (fun h => kt ((nI_ltI hb ha).mp h)) (fun h => kf (Nat.not_lt.mp (fun q => h ((nI_ltI hb ha).mpr q))))
theorem xIcmpLe (C : CallFix p m c cc nL s args Ts own) {a b : Nat} {off : Int} {tgt : Nat} (ha : a < 2 ^ 31) (hb : b < 2 ^ 31) (hdg : decode cc pc = .ok (.if_icmp .le off, 3)) (ht : (pc : Int) + off = (tgt : Int)) (kt : a ≤ b → W p l e R s m args below meth c H locs cells slots Q (F0 m tgt ls rest)) (kf : b < a → W p l e R s m args below meth c H locs cells slots Q (F0 m (pc + 3) ls rest)) : W p l e R s m args below meth c H locs cells slots Q (F0 m pc ls (.int (nI b) :: .int (nI a) :: rest)) :=
  lv_icmp_le C.1 C.2.1 hdg ht (fun h => kt ((nI_leI ha hb).mp h)) (fun h => kf (Nat.not_le.mp (fun q => h ((nI_leI ha hb).mpr q))))
theorem xIfEq (C : CallFix p m c cc nL s args Ts own) {a : Nat} {off : Int} {tgt : Nat} (ha : a < 2 ^ 31) (hdg : decode cc pc = .ok (.ifCond .eq off, 3)) (ht : (pc : Int) + off = (tgt : Int)) (kt : a = 0 → W p l e R s m args below meth c H locs cells slots Q (F0 m tgt ls rest)) (kf : 0 < a → W p l e R s m args below meth c H locs cells slots Q (F0 m (pc + 3) ls rest)) : W p l e R s m args below meth c H locs cells slots Q (F0 m pc ls (.int (nI a) :: rest)) :=
  lv_if_eq C.1 C.2.1 hdg ht (fun h => kt (by rcases Nat.eq_zero_or_pos a with z | z; exact z; exact absurd h (nI_ne0 z ha))) (fun h => kf (by rcases Nat.eq_zero_or_pos a with z | z; exact absurd (by rw [z]; exact nI_0) h; exact z))
theorem xIfNe (C : CallFix p m c cc nL s args Ts own) {a : Nat} {off : Int} {tgt : Nat} (ha : a < 2 ^ 31) (hdg : decode cc pc = .ok (.ifCond .ne off, 3)) (ht : (pc : Int) + off = (tgt : Int)) (kt : 0 < a → W p l e R s m args below meth c H locs cells slots Q (F0 m tgt ls rest)) (kf : a = 0 → W p l e R s m args below meth c H locs cells slots Q (F0 m (pc + 3) ls rest)) : W p l e R s m args below meth c H locs cells slots Q (F0 m pc ls (.int (nI a) :: rest)) :=
  lv_if_ne C.1 C.2.1 hdg ht (fun h => kt (by rcases Nat.eq_zero_or_pos a with z | z; exact absurd (by rw [z]; exact nI_0) h; exact z)) (fun h => kf (by rcases Nat.eq_zero_or_pos a with z | z; exact z; exact absurd h (nI_ne0 z ha)))
theorem xIfLe (C : CallFix p m c cc nL s args Ts own) {a : Nat} {off : Int} {tgt : Nat} (ha : a < 2 ^ 31) (hdg : decode cc pc = .ok (.ifCond .le off, 3)) (ht : (pc : Int) + off = (tgt : Int)) (kt : a = 0 → W p l e R s m args below meth c H locs cells slots Q (F0 m tgt ls rest)) (kf : 0 < a → W p l e R s m args below meth c H locs cells slots Q (F0 m (pc + 3) ls rest)) : W p l e R s m args below meth c H locs cells slots Q (F0 m pc ls (.int (nI a) :: rest)) :=
  lv_if_le C.1 C.2.1 hdg ht (fun h => kt (by rcases Nat.eq_zero_or_pos a with z | z; exact z; exact absurd h (nI_nle z ha))) (fun h => kf (by
    rcases Nat.eq_zero_or_pos a with z | z
    · exact absurd (by rw [z, nI_0]; exact Int32.le_refl 0) h
    · exact z))
theorem xIfGe (C : CallFix p m c cc nL s args Ts own) {a : Nat} {off : Int} {tgt : Nat} (ha : a < 2 ^ 31) (hdg : decode cc pc = .ok (.ifCond .ge off, 3)) (ht : (pc : Int) + off = (tgt : Int)) (kt : W p l e R s m args below meth c H locs cells slots Q (F0 m tgt ls rest)) : W p l e R s m args below meth c H locs cells slots Q (F0 m pc ls (.int (nI a) :: rest)) :=
  lv_if_ge C.1 C.2.1 hdg ht (fun _ => kt) (fun h => absurd (nI_pos' ha) h)
theorem xIfLt (C : CallFix p m c cc nL s args Ts own) {a : Nat} {off : Int} {tgt : Nat} (ha : a < 2 ^ 31) (hdg : decode cc pc = .ok (.ifCond .lt off, 3)) (ht : (pc : Int) + off = (tgt : Int)) (kf : W p l e R s m args below meth c H locs cells slots Q (F0 m (pc + 3) ls rest)) : W p l e R s m args below meth c H locs cells slots Q (F0 m pc ls (.int (nI a) :: rest)) :=
  lv_if_lt C.1 C.2.1 hdg ht (fun h => absurd h (nI_pos ha)) (fun _ => kf)
/-- a truth value as a number -/
def bI (b : Bool) : Int32 := if b = true then 1 else 0
theorem xIfEqB (C : CallFix p m c cc nL s args Ts own) {a : Bool} {off : Int} {tgt : Nat} (hdg : decode cc pc = .ok (.ifCond .eq off, 3)) (ht : (pc : Int) + off = (tgt : Int)) (kt : a = false → W p l e R s m args below meth c H locs cells slots Q (F0 m tgt ls rest)) (kf : a = true → W p l e R s m args below meth c H locs cells slots Q (F0 m (pc + 3) ls rest)) : W p l e R s m args below meth c H locs cells slots Q (F0 m pc ls (.int (bI a) :: rest)) :=
  lv_if_eq C.1 C.2.1 hdg ht (fun h => kt (by cases a; rfl; exact absurd h (by decide))) (fun h => kf (by cases a; exact absurd rfl h; rfl))
theorem xIfNeB (C : CallFix p m c cc nL s args Ts own) {a : Bool} {off : Int} {tgt : Nat} (hdg : decode cc pc = .ok (.ifCond .ne off, 3)) (ht : (pc : Int) + off = (tgt : Int)) (kt : a = true → W p l e R s m args below meth c H locs cells slots Q (F0 m tgt ls rest)) (kf : a = false → W p l e R s m args below meth c H locs cells slots Q (F0 m (pc + 3) ls rest)) : W p l e R s m args below meth c H locs cells slots Q (F0 m pc ls (.int (bI a) :: rest)) :=
  lv_if_ne C.1 C.2.1 hdg ht (fun h => kt (by cases a; exact absurd rfl h; rfl)) (fun h => kf (by cases a; rfl; exact absurd h (by decide)))
/-- getfield in the class's own world -/
theorem xGet (C : CallFix p m c cc nL s args Ts own) (hN : KN D k s) (hP : va_P D vwCl ws H) (q0 : Nat) {a ci : Nat} {fs : List Value} {v : Value} (he : ws[q0]? = some (a, .inr (ci, fs))) {Cn : String} {T : u_T} {N index j : Nat} (hc : vwCl[ci]? = some (Cn, T, N)) (hin : ∀ w ∈ u_ws Cn T N, w ∈ Ts) (hk : j < N) (hlink : Cond.fieldLink own index Cn (T j).2.1 (T j).2.2.1 ∈ Ts) (hself : (T j).1 = Cn) (hv : fs[j]? = some v) (hdg : decode cc pc = .ok (.getfield index, 3))
    (kk : W p l e R s m args below meth c H locs cells slots Q (F0 m (pc + 3) ls (v :: rest))) : W p l e R s m args below meth c H locs cells slots Q (F0 m pc ls (.ref a :: rest)) :=
  va_get C.1 C.2.1 C.2.2.2.2 hin C.2.2.2.1 hN.1 hP q0 he hc j hk (C.2.2.2.2 _ hlink) (fun _ h => by rw [hself] at h; exact h) hv hdg kk
theorem xPut (C : CallFix p m c cc nL s args Ts own) (hN : KN D k s) (hP : va_P D vwCl ws H) (hD : va_D A ws) (hS : va_S A H0 H locs) (q0 : Nat) {a ci : Nat} {fs : List Value} {v : Value} (he : ws[q0]? = some (a, .inr (ci, fs))) {Cn : String} {T : u_T} {N index j : Nat} {ty0 : Nat → FieldType} (hc : vwCl[ci]? = some (Cn, T, N)) (hin : ∀ w ∈ u_ws Cn T N, w ∈ Ts) (hty : ∀ j, j < N → parseFieldDescriptor (T j).2.2.1 = some (ty0 j)) (hnm : ∀ a, a < N → ∀ b, b < N → a ≠ b → (T a).2.1 ≠ (T b).2.1) (hk : j < N) (hlink : Cond.fieldLink own index Cn (T j).2.1 (T j).2.2.1 ∈ Ts) (hself : (T j).1 = Cn) (hfin : (T j).2.2.2 = false) (hn : narrow (ty0 j) v = v) (hfit : fits (ty0 j) v = true) (hl : j < fs.length)
    (hdg : decode cc pc = .ok (.putfield index, 3)) (kk : ∀ (H1 : Heap) (locs1 : List Loc), va_P D vwCl (ws.set q0 (a, .inr (ci, fs.set j v))) H1 → va_D A (ws.set q0 (a, .inr (ci, fs.set j v))) → va_S A H0 H1 locs1 → W p l e R s m args below meth c H1 locs1 cells slots Q (F0 m (pc + 3) ls rest)) : W p l e R s m args below meth c H locs cells slots Q (F0 m pc ls (v :: .ref a :: rest)) :=
  va_put C.1 C.2.1 C.2.2.2.2 hin ty0 hty hnm C.2.2.2.1 hN.1 hP hD hS q0 he hc j hk (C.2.2.2.2 _ hlink) (fun _ h => by rw [hself] at h; exact h) hfin (hty j hk) hn hfit hl hdg kk
theorem xPutF (C : CallFix p m c cc nL s args Ts own) (hN : KN D k s) (hP : va_P D vwCl ws H) (hD : va_D A ws) (hS : va_S A H0 H locs) (hname : meth.name = "<init>") (q0 : Nat) {a ci : Nat} {fs : List Value} {v : Value} (he : ws[q0]? = some (a, .inr (ci, fs))) {Cn : String} {T : u_T} {N index j : Nat} {ty0 : Nat → FieldType} (hc : vwCl[ci]? = some (Cn, T, N)) (hin : ∀ w ∈ u_ws Cn T N, w ∈ Ts) (hty : ∀ j, j < N → parseFieldDescriptor (T j).2.2.1 = some (ty0 j)) (hnm : ∀ a, a < N → ∀ b, b < N → a ≠ b → (T a).2.1 ≠ (T b).2.1) (hk : j < N) (hlink : Cond.fieldLink own index Cn (T j).2.1 (T j).2.2.1 ∈ Ts) (hself : (T j).1 = Cn) (hself2 : (T j).1 = own) (hfin : (T j).2.2.2 = true) (hn : narrow (ty0 j) v = v) (hfit : fits (ty0 j) v = true) (hl : j < fs.length)
    (hdg : decode cc pc = .ok (.putfield index, 3)) (kk : ∀ (H1 : Heap) (locs1 : List Loc), va_P D vwCl (ws.set q0 (a, .inr (ci, fs.set j v))) H1 → va_D A (ws.set q0 (a, .inr (ci, fs.set j v))) → va_S A H0 H1 locs1 → W p l e R s m args below meth c H1 locs1 cells slots Q (F0 m (pc + 3) ls rest)) : W p l e R s m args below meth c H locs cells slots Q (F0 m pc ls (v :: .ref a :: rest)) :=
  va_putF C.1 C.2.1 C.2.2.2.2 hin ty0 hty hnm C.2.2.2.1 hN.1 hP hD hS q0 he hc j hk (C.2.2.2.2 _ hlink) (fun _ h => by rw [hself] at h; exact h) hfin hname hself2 (hty j hk) hn hfit hl hdg kk
theorem xIald (C : CallFix p m c cc nL s args Ts own) (hN : KN D k s) (hP : va_P D vwCl ws H) (q0 : Nat) {a n j : Nat} {f : Nat → Int32} {v : Int32} (he : ws[q0]? = some (a, .inl (k 0, n, .inl f))) (hj : j < n) (hn : n < 2 ^ 31) (hv : f j = v) (hdg : decode cc pc = .ok (.iaload, 1))
    (kk : W p l e R s m args below meth c H locs cells slots Q (F0 m (pc + 1) ls (.int v :: rest))) : W p l e R s m args below meth c H locs cells slots Q (F0 m pc ls (.int (nI j) :: .ref a :: rest)) :=
  va_iald C.1 C.2.1 hN.1 hP q0 0 he rfl (vp_in_nI hj hn) hdg (by rw [nI_clamp (Nat.lt_trans hj hn), hv]; exact kk)
theorem xCald (C : CallFix p m c cc nL s args Ts own) (hN : KN D k s) (hP : va_P D vwCl ws H) (q0 : Nat) {a n j : Nat} {f : Nat → Int32} {v : Int32} (he : ws[q0]? = some (a, .inl (k 1, n, .inl f))) (hj : j < n) (hn : n < 2 ^ 31) (hv : f j = v) (hdg : decode cc pc = .ok (.caload, 1))
    (kk : W p l e R s m args below meth c H locs cells slots Q (F0 m (pc + 1) ls (.int v :: rest))) : W p l e R s m args below meth c H locs cells slots Q (F0 m pc ls (.int (nI j) :: .ref a :: rest)) :=
  va_cald C.1 C.2.1 hN.1 hP q0 1 he rfl (vp_in_nI hj hn) hdg (by rw [nI_clamp (Nat.lt_trans hj hn), hv]; exact kk)
theorem xAald (C : CallFix p m c cc nL s args Ts own) (hN : KN D k s) (hP : va_P D vwCl ws H) (q0 : Nat) {a n j : Nat} {f : Nat → Option Nat} {v : Value} (he : ws[q0]? = some (a, .inl (k 3, n, .inr (.inr (.inr (.inr f)))))) (hj : j < n) (hn : n < 2 ^ 31) (hv : va_rf (f j) = v) (hdg : decode cc pc = .ok (.aaload, 1))
    (kk : W p l e R s m args below meth c H locs cells slots Q (F0 m (pc + 1) ls (v :: rest))) : W p l e R s m args below meth c H locs cells slots Q (F0 m pc ls (.int (nI j) :: .ref a :: rest)) :=
  va_aldq C.1 C.2.1 hN.1 hP q0 3 he rfl (vp_in_nI hj hn) hdg (by rw [nI_clamp (Nat.lt_trans hj hn), hv]; exact kk)
theorem xIast (C : CallFix p m c cc nL s args Ts own) (hN : KN D k s) (hP : va_P D vwCl ws H) (hD : va_D A ws) (hS : va_S A H0 H locs) (q0 : Nat) {a n j : Nat} {f : Nat → Int32} {x : Int32} (he : ws[q0]? = some (a, .inl (k 0, n, .inl f))) (hj : j < n) (hn : n < 2 ^ 31) (hdg : decode cc pc = .ok (.iastore, 1))
    (kk : ∀ (H1 : Heap) (locs1 : List Loc), va_P D vwCl (ws.set q0 (a, .inl (k 0, n, .inl (upd f j x)))) H1 → va_D A (ws.set q0 (a, .inl (k 0, n, .inl (upd f j x)))) → va_S A H0 H1 locs1 → W p l e R s m args below meth c H1 locs1 cells slots Q (F0 m (pc + 1) ls rest)) : W p l e R s m args below meth c H locs cells slots Q (F0 m pc ls (.int x :: .int (nI j) :: .ref a :: rest)) :=
  va_iast C.1 C.2.1 hN.1 hP hD hS q0 0 he rfl (vp_in_nI hj hn) hdg (by rw [nI_clamp (Nat.lt_trans hj hn)]; exact kk)
theorem xCast (C : CallFix p m c cc nL s args Ts own) (hN : KN D k s) (hP : va_P D vwCl ws H) (hD : va_D A ws) (hS : va_S A H0 H locs) (q0 : Nat) {a n j : Nat} {f : Nat → Int32} {x y : Int32} (he : ws[q0]? = some (a, .inl (k 1, n, .inl f))) (hj : j < n) (hn : n < 2 ^ 31) (hx : vp_nar .char x = y) (hdg : decode cc pc = .ok (.castore, 1))
    (kk : ∀ (H1 : Heap) (locs1 : List Loc), va_P D vwCl (ws.set q0 (a, .inl (k 1, n, .inl (upd f j y)))) H1 → va_D A (ws.set q0 (a, .inl (k 1, n, .inl (upd f j y)))) → va_S A H0 H1 locs1 → W p l e R s m args below meth c H1 locs1 cells slots Q (F0 m (pc + 1) ls rest)) : W p l e R s m args below meth c H locs cells slots Q (F0 m pc ls (.int x :: .int (nI j) :: .ref a :: rest)) :=
  va_cast C.1 C.2.1 hN.1 hP hD hS q0 1 he rfl (vp_in_nI hj hn) hdg (by rw [nI_clamp (Nat.lt_trans hj hn), hx]; exact kk)
theorem xAlen (C : CallFix p m c cc nL s args Ts own) (hN : KN D k s) (hP : va_P D vwCl ws H) (q0 t0 : Nat) {a : Nat} {cA : ClassId} {x : vp_A} (he : ws[q0]? = some (a, .inl (cA, x))) {ty : FieldType} (ht : (xTys k)[t0]? = some (cA, ty)) (hdg : decode cc pc = .ok (.arraylength, 1))
    (kk : W p l e R s m args below meth c H locs cells slots Q (F0 m (pc + 1) ls (.int (nI x.1) :: rest))) : W p l e R s m args below meth c H locs cells slots Q (F0 m pc ls (.ref a :: rest)) :=
  va_alen C.1 C.2.1 hN.1 hP q0 t0 he ht rfl hdg kk
/-- a call that reads: an instance method -/
theorem xPreV {wc : va_W} {Cn : String} {b q0 ci : Nat} {q : vw_C} {fs : List Value} {As : List Value} (hN : KN D k s) (hP : va_P D vwCl wc H) (hc : vwCl[ci]? = some q) (he : wc[q0]? = some (b, .inr (ci, fs))) (hq : q.1 = Cn) : PreV s H Cn b (va_Pc (.ref b :: As) (xPr D k wc)) As := by
  subst hq
  exact ⟨fun a U g mk h => ⟨h.1, h.2.calling⟩, va_recv hN.1 hP hc he, fun U hU hW => ⟨rfl, by rw [hU]; exact hP, hN.warm hW⟩⟩
theorem xPreS {wc : va_W} {As : List Value} (hN : KN D k s) (hP : va_P D vwCl wc H) : PreS s H (va_Pc As (xPr D k wc)) As :=
  ⟨fun a U g mk h => ⟨h.1, h.2.calling⟩, fun U hU hW => ⟨rfl, by rw [hU]; exact hP, hN.warm hW⟩⟩
theorem xVro (C : CallFix p m c cc nL s args Ts own) (hN : KN D k s) {y : MethodName} {bytes : ByteArray} {maxL n index : Nat} {ret : Option FieldType} {wy : List Cond} {rm : Room} {b q0 ci : Nat} {As : List Value} {wc : va_W} {v : Int32} {Cn : String} {q : vw_C} {fs : List Value} (hM : Met l y wy rm (va_Pc (.ref b :: As) (xPr D k wc)) (vp_Si (fun r => r = v)) 0 0 (fun _ => False)) (cw : CallW R s args own Cn index y bytes maxL ret wy rm 0 0 n) (hP : va_P D vwCl wc H) (he : wc[q0]? = some (b, .inr (ci, fs))) (hc : vwCl[ci]? = some q) (hq : q.1 = Cn) (hn : As.length = n) (hl : ls.size = nL) (hst : st0 = As.reverse ++ .ref b :: rest) (hW : (rest.map fun v => v.category).sum ≤ 8) (hdg : decode cc pc = .ok (.invokevirtual index, 3)) (hf : cells ≤ R.cells ∧ slots ≤ R.slots)
    (kk : W p l e R s m args below meth c H locs cells slots Q (F0 m (pc + 3) ls (.int v :: rest))) : W p l e R s m args below meth c H locs cells slots Q (F0 m pc ls st0) :=
  vp_callSi (xRun (va_runV C hM cw (xPreV hN hP hc he hq) rfl hn hl hst (lv_room hW) hdg hf)) (fun r hr => by rw [hr]; exact kk)
theorem xSro (C : CallFix p m c cc nL s args Ts own) (hN : KN D k s) {y : MethodName} {bytes : ByteArray} {maxL n index : Nat} {ret : Option FieldType} {wy : List Cond} {rm : Room} {As : List Value} {wc : va_W} {v : Int32} (hM : Met l y wy rm (va_Pc As (xPr D k wc)) (vp_Si (fun r => r = v)) 0 0 (fun _ => False)) (cw : CallB R s args own index y bytes maxL ret wy rm 0 0 n ∧ (Cond.static y).before args s = true) (hP : va_P D vwCl wc H) (hn : As.length = n) (hl : ls.size = nL) (hst : st0 = As.reverse ++ rest) (hW : (rest.map fun v => v.category).sum ≤ 8) (hdg : decode cc pc = .ok (.invokestatic index, 3)) (hf : cells ≤ R.cells ∧ slots ≤ R.slots)
    (kk : W p l e R s m args below meth c H locs cells slots Q (F0 m (pc + 3) ls (.int v :: rest))) : W p l e R s m args below meth c H locs cells slots Q (F0 m pc ls st0) :=
  vp_callSi (xRun (va_runS C hM cw (xPreS hN hP) rfl hn hl hst (lv_room hW) hdg hf)) (fun r hr => by rw [hr]; exact kk)
theorem xNro (C : CallFix p m c cc nL s args Ts own) (hN : KN D k s) {y : MethodName} {host : String} {bytes : ByteArray} {maxL n index : Nat} {ret : Option FieldType} {wy : List Cond} {rm : Room} {As : List Value} {wc : va_W} {v : Int32} (hM : Met l y wy rm (va_Pc As (xPr D k wc)) (vp_Si (fun r => r = v)) 0 0 (fun _ => False)) (cw : va_CN R s args own index y host bytes maxL ret wy rm 0 0 n) (hst2 : (Cond.static y).before args s = true) (hP : va_P D vwCl wc H) (hn : As.length = n) (hl : ls.size = nL) (hst : st0 = As.reverse ++ rest) (hW : (rest.map fun v => v.category).sum ≤ 8) (hdg : decode cc pc = .ok (.invokestatic index, 3)) (hf : cells ≤ R.cells ∧ slots ≤ R.slots)
    (kk : W p l e R s m args below meth c H locs cells slots Q (F0 m (pc + 3) ls (.int v :: rest))) : W p l e R s m args below meth c H locs cells slots Q (F0 m pc ls st0) :=
  vp_callSi (xRun (va_runSN C hM ⟨cw, hst2, trivial⟩ (xPreS hN hP) rfl hn hl hst (lv_room hW) hdg hf)) (fun r hr => by rw [hr]; exact kk)
/-- the receiver and the start of a writing call -/
theorem xPreVw {A1 : Nat → Prop} {wc : va_W} {Cn : String} {b q0 ci : Nat} {q : vw_C} {fs : List Value} {As : List Value} (hN : KN D k s) (hP : va_P D vwCl wc H) (hD : va_D A1 wc) (hA : ∀ z : Nat, H.size ≤ z → A1 z) (hc : vwCl[ci]? = some q) (he : wc[q0]? = some (b, .inr (ci, fs))) (hq : q.1 = Cn) : PreV s H Cn b (va_Pc (.ref b :: As) (xPw D k A1 wc)) As := by
  subst hq
  exact ⟨fun a U g mk h => ⟨h.1, h.2.calling⟩, va_recv hN.1 hP hc he, fun U hU hW => ⟨rfl, by rw [hU]; exact hP, hN.warm hW, hD, by rw [hU]; exact hA⟩⟩
theorem xPreSw {A1 : Nat → Prop} {wc : va_W} {As : List Value} (hN : KN D k s) (hP : va_P D vwCl wc H) (hD : va_D A1 wc) (hA : ∀ z : Nat, H.size ≤ z → A1 z) : PreS s H (va_Pc As (xPw D k A1 wc)) As :=
  ⟨fun a U g mk h => ⟨h.1, h.2.calling⟩, fun U hU hW => ⟨rfl, by rw [hU]; exact hP, hN.warm hW, hD, by rw [hU]; exact hA⟩⟩
/-- a call that writes, on a part of the world (places isC), the rest (places isR) and the tail as they were -/
theorem xWi {L tl wc wr : va_W} {post : Int32 → va_W → Prop} {a : Array Value} {mc ms : Nat} (hP : va_P D vwCl (L ++ tl) H) (hD : va_D A (L ++ tl)) (hS : va_S A H0 H locs) (hA : ∀ q : Nat, H0.size ≤ q → A q) (isC isR : List Nat) (hC : isC.map (fun i => L[i]?) = wc.map some) (hR : isR.map (fun i => L[i]?) = wr.map some) (hn : va_nd isR = true) (hdis : ∀ i ∈ isR, i ∉ isC)
    (hr : va_Run p l e R s m args below meth c H locs cells slots mc ms (F0 m pc ls st0) rest (xQi D (va_A wc H.size) post a) (va_A wc H.size))
    (kk : ∀ (r : Int32) (u : va_W) (H1 : Heap) (locs1 : List Loc), post r u → va_P D vwCl (wr ++ u ++ tl) H1 → va_D A (wr ++ u ++ tl) → va_S A H0 H1 locs1 → W p l e R s m args below meth c H1 locs1 (cells + mc) (slots + ms) Q (F0 m (pc + 3) ls (.int r :: rest))) : W p l e R s m args below meth c H locs cells slots Q (F0 m pc ls st0) := by
  have hF := xFreeL hD hS hA isC hC
  refine va_calli hr hS (fun q _ h => hF q h) hF (fun r u t H1 locs1 ht _ hw hB _ hk1 hS1 => ?_)
  obtain ⟨hP1, hD1⟩ := hB
  rw [ht] at hP1
  obtain ⟨g1, g2⟩ := xJoin hP hD isC isR hC hR hn hdis hk1 hF hP1 hD1
  exact kk r u H1 locs1 hw g1 g2 hS1
theorem xWv {L tl wc wr : va_W} {post : va_W → Prop} {a : Array Value} {mc ms : Nat} (hP : va_P D vwCl (L ++ tl) H) (hD : va_D A (L ++ tl)) (hS : va_S A H0 H locs) (hA : ∀ q : Nat, H0.size ≤ q → A q) (isC isR : List Nat) (hC : isC.map (fun i => L[i]?) = wc.map some) (hR : isR.map (fun i => L[i]?) = wr.map some) (hn : va_nd isR = true) (hdis : ∀ i ∈ isR, i ∉ isC)
    (hr : va_Run p l e R s m args below meth c H locs cells slots mc ms (F0 m pc ls st0) rest (xQv D (va_A wc H.size) post a) (va_A wc H.size))
    (kk : ∀ (u : va_W) (H1 : Heap) (locs1 : List Loc), post u → va_P D vwCl (wr ++ u ++ tl) H1 → va_D A (wr ++ u ++ tl) → va_S A H0 H1 locs1 → W p l e R s m args below meth c H1 locs1 (cells + mc) (slots + ms) Q (F0 m (pc + 3) ls rest)) : W p l e R s m args below meth c H locs cells slots Q (F0 m pc ls st0) := by
  have hF := xFreeL hD hS hA isC hC
  refine va_callv hr hS (fun q _ h => hF q h) hF (fun u t H1 locs1 ht _ hw hB _ hk1 hS1 => ?_)
  obtain ⟨hP1, hD1⟩ := hB
  rw [ht] at hP1
  obtain ⟨g1, g2⟩ := xJoin hP hD isC isR hC hR hn hdis hk1 hF hP1 hD1
  exact kk u H1 locs1 hw g1 g2 hS1
/-- a call that writes, on the whole world -/
theorem xWWi {post : Int32 → va_W → Prop} {a : Array Value} {mc ms : Nat} (hS : va_S A H0 H locs)
    (hr : va_Run p l e R s m args below meth c H locs cells slots mc ms (F0 m pc ls st0) rest (xQi D A post a) A)
    (kk : ∀ (r : Int32) (u : va_W) (H1 : Heap) (locs1 : List Loc), post r u → va_P D vwCl u H1 → va_D A u → va_S A H0 H1 locs1 → W p l e R s m args below meth c H1 locs1 (cells + mc) (slots + ms) Q (F0 m (pc + 3) ls (.int r :: rest))) : W p l e R s m args below meth c H locs cells slots Q (F0 m pc ls st0) := by
  refine va_calli hr hS (fun q _ h => h) (fun _ h => h) (fun r u t H1 locs1 ht _ hw hB _ hk1 hS1 => ?_)
  obtain ⟨hP1, hD1⟩ := hB
  rw [ht] at hP1
  exact kk r u H1 locs1 hw hP1 hD1 hS1
theorem xWWv {post : va_W → Prop} {a : Array Value} {mc ms : Nat} (hS : va_S A H0 H locs)
    (hr : va_Run p l e R s m args below meth c H locs cells slots mc ms (F0 m pc ls st0) rest (xQv D A post a) A)
    (kk : ∀ (u : va_W) (H1 : Heap) (locs1 : List Loc), post u → va_P D vwCl u H1 → va_D A u → va_S A H0 H1 locs1 → W p l e R s m args below meth c H1 locs1 (cells + mc) (slots + ms) Q (F0 m (pc + 3) ls rest)) : W p l e R s m args below meth c H locs cells slots Q (F0 m pc ls st0) := by
  refine va_callv hr hS (fun q _ h => h) (fun _ h => h) (fun u t H1 locs1 ht _ hw hB _ hk1 hS1 => ?_)
  obtain ⟨hP1, hD1⟩ := hB
  rw [ht] at hP1
  exact kk u H1 locs1 hw hP1 hD1 hS1
theorem xAll {A : Nat → Prop} {H0 H : Heap} {locs : List Loc} (hS : va_S A H0 H locs) (hA : ∀ q : Nat, H0.size ≤ q → A q) : ∀ q : Nat, H.size ≤ q → A q := fun q h => hA q (Nat.le_trans hS.1 h)
theorem xNarB (b : Bool) : narrow .boolean (.int (bI b)) = .int (bI b) := by cases b <;> rfl
theorem xNar0 : narrow .boolean (.int (nI 0)) = .int (nI 0) := rfl
theorem xNar1 : narrow .boolean (.int (nI 1)) = .int (nI 1) := rfl
theorem xRoI {v v' : Int32} (hx : p.tables.exec = Jvm.exec) (hb : c.code = cc) (hr : meth.sig.returnType = some .int) (hv : v = v') (hdg : decode cc pc = .ok (.ireturn, 1)) (hlocks : meth.locks = false) : W p l e R s m args below meth c s.heap [] 0 0 (MQ below (vp_Si (fun r => r = v')) args s 0 0 (fun _ => False)) (F0 m pc ls [.int v]) :=
  W.iret hx hb hr (fun t ht _ => ⟨v, rfl, hv, ht⟩) (fun _ h => absurd h List.not_mem_nil) hdg hlocks
theorem xRoZ {v v' : Int32} (hx : p.tables.exec = Jvm.exec) (hb : c.code = cc) (hr : meth.sig.returnType = some .boolean) (hn : narrow .boolean (.int v) = .int v) (hv : v = v') (hdg : decode cc pc = .ok (.ireturn, 1)) (hlocks : meth.locks = false) : W p l e R s m args below meth c s.heap [] 0 0 (MQ below (vp_Si (fun r => r = v')) args s 0 0 (fun _ => False)) (F0 m pc ls [.int v]) :=
  W.zret hx hb hr hn (fun t ht _ => ⟨v, rfl, hv, ht⟩) (fun _ h => absurd h List.not_mem_nil) hdg hlocks
theorem xRoC {v v' : Int32} (hx : p.tables.exec = Jvm.exec) (hb : c.code = cc) (hr : meth.sig.returnType = some .char) (hn : narrow .char (.int v) = .int v) (hv : v = v') (hdg : decode cc pc = .ok (.ireturn, 1)) (hlocks : meth.locks = false) : W p l e R s m args below meth c s.heap [] 0 0 (MQ below (vp_Si (fun r => r = v')) args s 0 0 (fun _ => False)) (F0 m pc ls [.int v]) :=
  W.zret hx hb hr hn (fun t ht _ => ⟨v, rfl, hv, ht⟩) (fun _ h => absurd h List.not_mem_nil) hdg hlocks
theorem xRetI {v : Int32} {post : Int32 → va_W → Prop} (hx : p.tables.exec = Jvm.exec) (hb : c.code = cc) (hr : meth.sig.returnType = some .int) (hq : post v ws) (hP : va_P D vwCl ws H) (hD : va_D A ws) (hS : va_S A s.heap H locs) (hdg : decode cc pc = .ok (.ireturn, 1)) (hlocks : meth.locks = false) : W p l e R s m args below meth c H locs cells slots (MQ below (xQi D A post) args s cells slots A) (F0 m pc ls [.int v]) :=
  W.iret hx hb hr (fun t ht _ => ⟨⟨v, ws, rfl, hq, by rw [ht]; exact hP, hD⟩, hS.F ht⟩) hS.2.2 hdg hlocks
theorem xRetZ {v : Int32} {post : Int32 → va_W → Prop} (hx : p.tables.exec = Jvm.exec) (hb : c.code = cc) (hr : meth.sig.returnType = some .boolean) (hn : narrow .boolean (.int v) = .int v) (hq : post v ws) (hP : va_P D vwCl ws H) (hD : va_D A ws) (hS : va_S A s.heap H locs) (hdg : decode cc pc = .ok (.ireturn, 1)) (hlocks : meth.locks = false) : W p l e R s m args below meth c H locs cells slots (MQ below (xQi D A post) args s cells slots A) (F0 m pc ls [.int v]) :=
  W.zret hx hb hr hn (fun t ht _ => ⟨⟨v, ws, rfl, hq, by rw [ht]; exact hP, hD⟩, hS.F ht⟩) hS.2.2 hdg hlocks
theorem xRetV {post : va_W → Prop} (hx : p.tables.exec = Jvm.exec) (hb : c.code = cc) (hr : meth.sig.returnType = none) (hq : post ws) (hP : va_P D vwCl ws H) (hD : va_D A ws) (hS : va_S A s.heap H locs) (hdg : decode cc pc = .ok (.return_, 1)) (hlocks : meth.locks = false) : W p l e R s m args below meth c H locs cells slots (MQ below (xQv D A post) args s cells slots A) (F0 m pc ls []) :=
  W.vret hx hb hr (fun t ht _ => ⟨⟨ws, rfl, hq, by rw [ht]; exact hP, hD⟩, hS.F ht⟩) hS.2.2 hdg hlocks
theorem xPermP {L tl L2 : va_W} (hP : va_P D vwCl (L ++ tl) H) (is : List Nat) (hs : is.map (fun i => L[i]?) = L2.map some) : va_P D vwCl (L2 ++ tl) H := by
  refine va_P.app (xSubL hP is hs) (fun i q hi => hP (L.length + i) q ?_)
  rw [List.getElem?_append_right (by omega), Nat.add_sub_cancel_left]; exact hi
theorem xPermD {L tl L2 : va_W} (hD : va_D A (L ++ tl)) (is : List Nat) (hn : va_nd is = true) (hs : is.map (fun i => L[i]?) = L2.map some) : va_D A (L2 ++ tl) := by
  have inT : ∀ {i : Nat} {q : Nat × va_E}, tl[i]? = some q → (L ++ tl)[L.length + i]? = some q := by
    intro i q h
    rw [List.getElem?_append_right (by omega), Nat.add_sub_cancel_left]; exact h
  refine va_D.app (xSubD hD is hn hs) ⟨fun i j a b hi hj hab => ?_, fun i a hi => hD.2 _ a (inT hi)⟩ (fun i j a b ha hb hab => ?_)
  · have := hD.1 _ _ a b (inT hi) (inT hj) hab
    omega
  · have h1 : (is.map (fun i => L[i]?))[i]? = some (some a) := by rw [hs, List.getElem?_map, ha]; rfl
    rw [List.getElem?_map] at h1
    cases hi : is[i]? with
    | none => rw [hi] at h1; cases h1
    | some i2 =>
      rw [hi] at h1
      have h2 : L[i2]? = some a := Option.some.inj h1
      have hl := (List.getElem?_eq_some_iff.mp h2).1
      have := hD.1 i2 _ a b (by rw [List.getElem?_append_left hl]; exact h2) (inT hb) hab
      omega
/-- a switch over a table -/
theorem xTab {x : Int32} (lo n : Nat) (h : lo + n < 2 ^ 30) : (x.toInt < (lo : Int) ∨ (lo : Int) + n ≤ x.toInt) ∨ ∃ j : Nat, j < n ∧ x = nI (lo + j) := by
  by_cases h1 : x.toInt < (lo : Int)
  · exact Or.inl (Or.inl h1)
  · by_cases h2 : (lo : Int) + n ≤ x.toInt
    · exact Or.inl (Or.inr h2)
    · refine Or.inr ⟨x.toInt.toNat - lo, by omega, ?_⟩
      apply Int32.toInt_inj.mp
      rw [nI_toInt (by omega)]
      omega
theorem xTabIn (C : CallFix p m c cc nL s args Ts own) {x : Int32} {dflt lo hi : Int} {offs : Array Int} {len j : Nat} {off : Int} {tgt : Nat} (hx : x = nI j) (hdg : decode cc pc = .ok (.tableswitch dflt lo hi offs, len)) (h1 : ¬ (j : Int) < lo ∧ j < 2 ^ 31) (h2 : ¬ hi < (j : Int)) (ho : offs[((j : Int) - lo).toNat]? = some off) (ht : (pc : Int) + off = (tgt : Int)) (kk : W p l e R s m args below meth c H locs cells slots Q (F0 m tgt ls rest)) : W p l e R s m args below meth c H locs cells slots Q (F0 m pc ls (.int x :: rest)) := by
  subst hx
  exact lv_tableIn C.1 C.2.1 hdg (by rw [nI_toInt h1.2]; exact h1.1) (by rw [nI_toInt h1.2]; exact h2) (by rw [nI_toInt h1.2]; exact ho) ht kk
end XR
theorem nI_max {a b : Nat} (ha : a < 2 ^ 31) (hb : b < 2 ^ 31) : (if nI a < nI b then nI b else nI a) = nI (max a b) := by
  by_cases h : a < b
  · rw [if_pos (nI_lt h hb), Nat.max_eq_right (by omega)]
  · rw [if_neg (nI_nlt (by omega) ha), Nat.max_eq_left (by omega)]
theorem nI_min {a b : Nat} (ha : a < 2 ^ 31) (hb : b < 2 ^ 31) : (if nI b < nI a then nI b else nI a) = nI (min a b) := by
  by_cases h : b < a
  · rw [if_pos (nI_lt h ha), Nat.min_eq_right (by omega)]
  · rw [if_neg (nI_nlt (by omega) hb), Nat.min_eq_left (by omega)]
