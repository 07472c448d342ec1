theorem arr_int {s : State} {A : Array Value} (h : (Cond.arrayClass .int).before A s = true) : ∃ cA, ArrOfT s cA .int ∧ va_RA s cA .int := by
  obtain ⟨cA, kA, comp, h1, h2, h3⟩ := Cond.arrayClass_spec h
  exact ⟨cA, fun n z => ⟨fun k h => (by cases h), kA, h2, comp, h3⟩, h1⟩
theorem arr_char {s : State} {A : Array Value} (h : (Cond.arrayClass .char).before A s = true) : ∃ cA, ArrOfT s cA .char ∧ va_RA s cA .char := by
  obtain ⟨cA, kA, comp, h1, h2, h3⟩ := Cond.arrayClass_spec h
  exact ⟨cA, fun n z => ⟨fun k h => (by cases h), kA, h2, comp, h3⟩, h1⟩
theorem arr_bool {s : State} {A : Array Value} (h : (Cond.arrayClass .boolean).before A s = true) : ∃ cA, ArrOfT s cA .boolean ∧ va_RA s cA .boolean := by
  obtain ⟨cA, kA, comp, h1, h2, h3⟩ := Cond.arrayClass_spec h
  exact ⟨cA, fun n z => ⟨fun k h => (by cases h), kA, h2, comp, h3⟩, h1⟩
theorem arr_st {s : State} {A : Array Value} (h : (Cond.arrayOver (.object RX3)).before A s = true) : ∃ cA, ArrOfT s cA (.object RX3) ∧ va_RA s cA (.object RX3) := by
  obtain ⟨comp, c, k, h1, h2, h3, h4, h5⟩ := Cond.arrayOver_spec h
  exact ⟨c, fun n z => ⟨fun k h => (by cases h), k, h3, comp, h4⟩, k, comp, h3, h4, h1, h5⟩
set_option maxRecDepth 20000 in
theorem kn0 {s : State} {A : Array Value} (hts : ∀ w ∈ lw_tbl, w.before A s = true) : ∃ (D : va_G) (kA : Nat → ClassId), KN D kA s := by
  obtain ⟨c0, i0, g0⟩ := u_known (C := RX0) (T := TX0) (N := 7) (n := 7) hts lin_wsX00 (hts (.instantiable RX0 7) (by decide +kernel))
  obtain ⟨c1, i1, g1⟩ := u_known (C := RX1) (T := TX1) (N := 2) (n := 2) hts lin_wsX10 (hts (.instantiable RX1 2) (by decide +kernel))
  obtain ⟨c2, i2, g2⟩ := u_known (C := RX2) (T := TX2) (N := 7) (n := 7) hts lin_wsX20 (hts (.instantiable RX2 7) (by decide +kernel))
  obtain ⟨c3, i3, g3⟩ := u_known (C := RX3) (T := TX3) (N := 2) (n := 2) hts lin_wsX30 (hts (.instantiable RX3 2) (by decide +kernel))
  obtain ⟨c4, i4, g4⟩ := u_known (C := RX4) (T := TX4) (N := 6) (n := 6) hts lin_wsX40 (hts (.instantiable RX4 6) (by decide +kernel))
  obtain ⟨c5, i5, g5⟩ := u_known (C := RX5) (T := TX5) (N := 9) (n := 9) hts lin_wsX50 (hts (.instantiable RX5 9) (by decide +kernel))
  obtain ⟨a0, b0, d0⟩ := arr_int (hts (.arrayClass .int) (by decide +kernel))
  obtain ⟨a1, b1, d1⟩ := arr_char (hts (.arrayClass .char) (by decide +kernel))
  obtain ⟨a2, b2, d2⟩ := arr_bool (hts (.arrayClass .boolean) (by decide +kernel))
  have hao := hts (.arrayOver (.object RX3)) (by decide +kernel)
  obtain ⟨a3, b3, d3⟩ := arr_st hao
  refine ⟨(fun k => match k with | 0 => c0 | 1 => c1 | 2 => c2 | 3 => c3 | 4 => c4 | _ => c5, fun k => match k with | 0 => i0 | 1 => i1 | 2 => i2 | 3 => i3 | 4 => i4 | _ => i5), fun k => match k with | 0 => a0 | 1 => a1 | 2 => a2 | _ => a3, ⟨fun k q hq => ?_, fun k q hq => ?_⟩, ?_⟩
  · match k, hq with
    | 0, hq => cases hq; exact g0
    | 1, hq => cases hq; exact g1
    | 2, hq => cases hq; exact g2
    | 3, hq => cases hq; exact g3
    | 4, hq => cases hq; exact g4
    | 5, hq => cases hq; exact g5
    | k + 6, hq => simp at hq
  · match k, hq with
    | 0, hq => cases hq; exact ⟨b0, d0⟩
    | 1, hq => cases hq; exact ⟨b1, d1⟩
    | 2, hq => cases hq; exact ⟨b2, d2⟩
    | 3, hq => cases hq; exact ⟨b3, d3⟩
    | k + 4, hq => simp at hq
  · exact ⟨va_Nw.of rfl (hts _ (by decide +kernel)), va_Nw.of rfl (hts _ (by decide +kernel)), va_Nw.of rfl (hts _ (by decide +kernel)), va_Nw.of rfl (hts _ (by decide +kernel)), va_Nw.of rfl (hts _ (by decide +kernel)), va_Nw.of rfl (hts _ (by decide +kernel)), va_Nw.of rfl (hts _ (by decide +kernel)), va_Nw.of rfl (hts _ (by decide +kernel)), va_Nw.of rfl (hts _ (by decide +kernel)), va_Nw.of rfl (hts _ (by decide +kernel)), va_Nw.of rfl (hts _ (by decide +kernel)), va_Nw.of rfl (hts _ (by decide +kernel)), va_AO.of hao⟩
section LV
variable {p : Program} {l : Launch} {e : Env} {R : Room} {s : State} {m : MethodId} {args : Array Value} {below : List Frame} {meth : Method} {c : Code} {H : Heap} {locs : List Loc} {cells slots : Nat} {Q : State → Prop}
variable {pc : Nat} {ls : Array Slot} {rest st0 : List Value} {D : va_G} {A : Nat → Prop} {H0 : Heap}
theorem xLaw2v {u1 u2 : va_W} {post : va_W → Prop} {a : Array Value} {mc ms : Nat} (hP : va_P D vwCl (u1 ++ u2) H) (hD : va_D A (u1 ++ u2)) (hS : va_S A H0 H locs) (hA : ∀ q : Nat, H0.size ≤ q → A q)
    (hr : va_Run p l e R s m args below meth c H locs cells slots mc ms (F0 m pc ls st0) rest (xQv D (va_A u2 H.size) post a) (va_A u2 H.size))
    (kk : ∀ (u : va_W) (H1 : Heap) (locs1 : List Loc), post u → va_P D vwCl (u1 ++ u) H1 → va_D A (u1 ++ u) → va_S A H0 H1 locs1 → W p l e R s m args below meth c H1 locs1 (cells + mc) (slots + ms) Q (F0 m (pc + 3) ls rest)) : W p l e R s m args below meth c H locs cells slots Q (F0 m pc ls st0) := by
  refine xWv (L := u1 ++ u2) (tl := []) (wc := u2) (wr := u1) (by rw [List.append_nil]; exact hP) (by rw [List.append_nil]; exact hD) hS hA ((List.range u2.length).map (fun i => u1.length + i)) (List.range u1.length) (rng2 u1 u2) (rng1 u1 u2) (nd_r1 _) ?_ hr (fun u H1 locs1 hp hP1 hD1 hS1 => ?_)
  · intro i hi h
    obtain ⟨j, _, e⟩ := List.mem_map.mp h
    have := List.mem_range.mp hi; omega
  · rw [List.append_nil] at hP1 hD1
    exact kk u H1 locs1 hp hP1 hD1 hS1
end LV
set_option maxHeartbeats 4000000 in
set_option maxRecDepth 100000 in
theorem law_start {p : Program} {e : Env} {s : State} {m : MethodId} {below : List Frame} {meth : Method} {c : Code} (l : Launch) {b L : Nat} {xs : Nat → Int32} (hL : L ≤ 3072) (C0 : lw_At p s m meth c b L xs) : W p l e room_1 s m #[Value.ref b] below meth c s.heap [] 0 0 (lw_Z below #[Value.ref b] s) (entryFrame m ([Value.ref b] : List Value).toArray 4) := by
  obtain ⟨hx, hb, hr, hml, hown, hts, hX, hbl, hlocks, hgv⟩ := id C0
  have hts2 : ∀ w ∈ wsL_law, w.before #[Value.ref b] s = true := fun w hw => hts w (wsL_law_in w hw)
  have C : CallFix p m c cL_law 4 s #[Value.ref b] wsL_law RL := ⟨hx, hb, hml, hown, hts2⟩
  obtain ⟨D, kA, hN⟩ := kn0 hts
  have hA : ∀ q : Nat, s.heap.size ≤ q → (fun q : Nat => s.heap.size ≤ q) q := fun _ h => h
  have hS : va_S (fun q : Nat => s.heap.size ≤ q) s.heap s.heap [] := va_S.rf
  have hP : va_P D vwCl [] s.heap := fun k q h => by simp at h
  have hD : va_D (fun q : Nat => s.heap.size ≤ q) [] := ⟨fun i j p q h => by simp at h, fun k q h => by simp at h⟩
  have hl := lv_entry ([.ref b]) (n := 4) (Nat.le_of_ble_eq_true rfl)
  rw [lg_entry_eq]
  generalize (lg_sl ([.ref b]) ++ List.replicate (4 - (lg_sl ([.ref b])).length) Slot.unset).toArray = ls at hl ⊢
  have hl : lv_has ls 4 [(0, .ref b)] := hl
  refine xNew C hN hP hD hS hA (ci := 4) (fs := [.null, .null, .null, .null, .int 0, .null]) rfl inlX4 tyX4_ok (List.mem_of_getElem? (i := 0) rfl) (List.mem_of_getElem? (i := 1) rfl) (List.mem_of_getElem? (i := 2) rfl) (fun j hj => by rcases (show j = 0 ∨ j = 1 ∨ j = 2 ∨ j = 3 ∨ j = 4 ∨ j = 5 by omega) with rfl | rfl | rfl | rfl | rfl | rfl <;> rfl) (Nat.le_of_ble_eq_true rfl) (Nat.le_of_ble_eq_true rfl) dL_law_0 (fun q0 H hP hD hS => ?_)
  refine lv_dup hx hb dL_law_3 rfl ?_
  refine xLaw2v (u1 := []) (u2 := [(q0, .inr (4, [.null, .null, .null, .null, .int 0, .null]))]) hP hD hS hA (va_runI (As := []) (rest := [.ref q0]) C (c_X4_init l D kA q0 _) (cwI 0 hts2 gL_law_X4_init rfl rfl rfl (hts2 (.initialized RX4) (List.mem_of_getElem? (i := 2) rfl)) (hts2 (.methodLink RL 9 yX4_init) (List.mem_of_getElem? (i := 7) rfl)) (hts2 (.instanceMethod yX4_init) (List.mem_of_getElem? (i := 8) rfl)) rfl (by decide +kernel) ⟨Nat.le_of_ble_eq_true rfl, Nat.le_of_ble_eq_true rfl⟩) (xPreSw hN (va_P2 hP) (va_Db (u1 := []) hD) (fun _ h => Or.inr h)) rfl rfl hl.1 rfl (lv_room (Nat.le_of_ble_eq_true rfl)) dL_law_4 ⟨Nat.le_of_ble_eq_true rfl, Nat.le_of_ble_eq_true rfl⟩) (fun u H locs hq hP9 hD9 hS9 => ?_)
  obtain ⟨ox, os, ob, ot, e0, e1⟩ := hq
  subst e0
  have h1 := cls0 kA ox os ob ot
  rw [← e1] at h1
  have hP : va_P D vwCl u H := hP9
  have hD : va_D (fun q : Nat => s.heap.size ≤ q) u := hD9
  have hS := hS9
  refine lv_astore_n (lv' := [(1, .ref (ox 0)), (0, .ref b)]) hx hb dL_law_7 rfl hl (by decide) rfl (fun ls hl => ?_)
  refine xNew C hN hP hD hS hA (ci := 5) (fs := [.null, .null, .int 0, .null, .null, .null, .int 0, .null, .int 0]) rfl inlX5 tyX5_ok (List.mem_of_getElem? (i := 3) rfl) (List.mem_of_getElem? (i := 4) rfl) (List.mem_of_getElem? (i := 5) rfl) (fun j hj => by rcases (show j = 0 ∨ j = 1 ∨ j = 2 ∨ j = 3 ∨ j = 4 ∨ j = 5 ∨ j = 6 ∨ j = 7 ∨ j = 8 by omega) with rfl | rfl | rfl | rfl | rfl | rfl | rfl | rfl | rfl <;> rfl) (Nat.le_of_ble_eq_true rfl) (Nat.le_of_ble_eq_true rfl) dL_law_8 (fun q1 H hP hD hS => ?_)
  refine lv_dup hx hb dL_law_11 rfl ?_
  refine xLaw2v (u1 := u) hP hD hS hA (va_runI (As := []) (rest := [.ref q1]) C (c_X5_init l D kA q1 _) (cwI 0 hts2 gL_law_X5_init rfl rfl rfl (hts2 (.initialized RX5) (List.mem_of_getElem? (i := 5) rfl)) (hts2 (.methodLink RL 12 yX5_init) (by decide +kernel)) (hts2 (.instanceMethod yX5_init) (by decide +kernel)) rfl (by decide +kernel) ⟨Nat.le_of_ble_eq_true rfl, Nat.le_of_ble_eq_true rfl⟩) (xPreSw hN (va_P2 hP) (va_Db hD) (fun _ h => Or.inr h)) rfl rfl hl.1 rfl (lv_room (Nat.le_of_ble_eq_true rfl)) dL_law_12 ⟨Nat.le_of_ble_eq_true rfl, Nat.le_of_ble_eq_true rfl⟩) (fun u2 H locs hq hP8 hD8 hS8 => ?_)
  obtain ⟨a, e2, e3⟩ := hq
  subst e2
  have hP := hP8
  have hD := hD8
  have hS := hS8
  have h2 := mod0 kA a
  rw [← e3] at h2
  refine lv_astore_n (lv' := [(2, .ref (a 0)), (1, .ref (ox 0)), (0, .ref b)]) hx hb dL_law_15 rfl hl (by decide) rfl (fun ls hl => ?_)
  refine lv_iconst (v := nI 0) hx hb dL_law_16 (by decide) ?_
  refine lv_istore_n (lv' := [(3, .int (nI 0)), (2, .ref (a 0)), (1, .ref (ox 0)), (0, .ref b)]) hx hb dL_law_17 rfl hl (by decide) rfl (fun ls hl => ?_)
  exact law_loop hL C0 hN 513 0 _ _ sig0 u u2 H locs ls (by omega) (by omega) (by omega) (by omega) inv0 h1 h2 hP hD hS (lv_sub hl [0, 3, 2, 1] rfl)
