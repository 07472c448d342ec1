/-! The law: rows for a world of two parts, and each call on both sides. -/
section LW
variable {p : Program} {l : Launch} {e : Env} {R : Room} {s : State} {m : MethodId} {args : Array Value} {below : List Frame} {meth : Method} {c : Code} {H : Heap} {locs : List Loc} {cells slots : Nat} {Q : State → Prop}
variable {cc : ByteArray} {pc nL : Nat} {ls : Array Slot} {rest st0 : List Value} {Ts : List Cond} {own : String} {D : va_G} {k : Nat → ClassId} {A : Nat → Prop} {H0 : Heap}
theorem rng1 (u1 u2 : va_W) : (List.range u1.length).map (fun i => (u1 ++ u2)[i]?) = u1.map some := by
  apply List.ext_getElem?
  intro i
  rw [List.getElem?_map, List.getElem?_map]
  by_cases h : i < u1.length
  · rw [List.getElem?_range h, Option.map_some, List.getElem?_append_left h, List.getElem?_eq_getElem h]; rfl
  · rw [List.getElem?_eq_none (by rw [List.length_range]; omega), List.getElem?_eq_none (by omega)]; rfl
theorem rng2 (u1 u2 : va_W) : ((List.range u2.length).map (fun i => u1.length + i)).map (fun i => (u1 ++ u2)[i]?) = u2.map some := by
  apply List.ext_getElem?
  intro i
  rw [List.getElem?_map, List.getElem?_map, List.getElem?_map]
  by_cases h : i < u2.length
  · rw [List.getElem?_range h, Option.map_some, Option.map_some, List.getElem?_append_right (by omega), Nat.add_sub_cancel_left, List.getElem?_eq_getElem h]; rfl
  · rw [List.getElem?_eq_none (by rw [List.length_range]; omega), List.getElem?_eq_none (by omega)]; rfl
theorem nd_of : ∀ {l : List Nat}, l.Nodup → va_nd l = true
  | [], _ => rfl
  | a :: l, h => by
    rw [List.nodup_cons] at h
    rw [va_nd, nd_of h.2, decide_eq_true h.1]; rfl
theorem nd_r1 (n : Nat) : va_nd (List.range n) = true := nd_of List.nodup_range
theorem nd_r2 (a n : Nat) : va_nd ((List.range n).map (fun i => a + i)) = true := by
  apply nd_of
  rw [List.nodup_iff_pairwise_ne, List.pairwise_map]
  exact (List.nodup_range (n := n)).imp (fun h e => h (by omega))
theorem xLaw1 {u1 u2 : va_W} {post : Int32 → va_W → Prop} {a : Array Value} {mc ms : Nat} (hP : va_P D vwCl (u1 ++ u2) H) (hD : va_D A (u1 ++ u2)) (hS : va_S A H0 H locs) (hA : ∀ q : Nat, H0.size ≤ q → A q)
    (hr : va_Run p l e R s m args below meth c H locs cells slots mc ms (F0 m pc ls st0) rest (xQi D (va_A u1 H.size) post a) (va_A u1 H.size))
    (kk : ∀ (r : Int32) (u : va_W) (H1 : Heap) (locs1 : List Loc), post r u → va_P D vwCl (u ++ u2) H1 → va_D A (u ++ u2) → va_S A H0 H1 locs1 → W p l e R s m args below meth c H1 locs1 (cells + mc) (slots + ms) Q (F0 m (pc + 3) ls (.int r :: rest))) : W p l e R s m args below meth c H locs cells slots Q (F0 m pc ls st0) := by
  refine xWi (L := u1 ++ u2) (tl := []) (wc := u1) (wr := u2) (by rw [List.append_nil]; exact hP) (by rw [List.append_nil]; exact hD) hS hA (List.range u1.length) ((List.range u2.length).map (fun i => u1.length + i)) (rng1 u1 u2) (rng2 u1 u2) (nd_r2 _ _) ?_ hr (fun r u H1 locs1 hp hP1 hD1 hS1 => ?_)
  · intro i hi h
    obtain ⟨j, _, rfl⟩ := List.mem_map.mp hi
    have := List.mem_range.mp h; omega
  · rw [List.append_nil] at hP1 hD1
    exact kk r u H1 locs1 hp (xPerP hP1 List.perm_append_comm) (xPerD hD1 List.perm_append_comm) hS1
theorem xLaw2 {u1 u2 : va_W} {post : Int32 → va_W → Prop} {a : Array Value} {mc ms : Nat} (hP : va_P D vwCl (u1 ++ u2) H) (hD : va_D A (u1 ++ u2)) (hS : va_S A H0 H locs) (hA : ∀ q : Nat, H0.size ≤ q → A q)
    (hr : va_Run p l e R s m args below meth c H locs cells slots mc ms (F0 m pc ls st0) rest (xQi D (va_A u2 H.size) post a) (va_A u2 H.size))
    (kk : ∀ (r : Int32) (u : va_W) (H1 : Heap) (locs1 : List Loc), post r u → va_P D vwCl (u1 ++ u) H1 → va_D A (u1 ++ u) → va_S A H0 H1 locs1 → W p l e R s m args below meth c H1 locs1 (cells + mc) (slots + ms) Q (F0 m (pc + 3) ls (.int r :: rest))) : W p l e R s m args below meth c H locs cells slots Q (F0 m pc ls st0) := by
  refine xWi (L := u1 ++ u2) (tl := []) (wc := u2) (wr := u1) (by rw [List.append_nil]; exact hP) (by rw [List.append_nil]; exact hD) hS hA ((List.range u2.length).map (fun i => u1.length + i)) (List.range u1.length) (rng2 u1 u2) (rng1 u1 u2) (nd_r1 _) ?_ hr (fun r u H1 locs1 hp hP1 hD1 hS1 => ?_)
  · intro i hi h
    obtain ⟨j, _, e⟩ := List.mem_map.mp h
    have := List.mem_range.mp hi; omega
  · rw [List.append_nil] at hP1 hD1
    exact kk r u H1 locs1 hp hP1 hD1 hS1
theorem va_P1 {u1 u2 : va_W} (hP : va_P D vwCl (u1 ++ u2) H) : va_P D vwCl u1 H := fun i q hi => hP i q (by rw [List.getElem?_append_left (List.getElem?_eq_some_iff.mp hi).1]; exact hi)
theorem va_P2 {u1 u2 : va_W} (hP : va_P D vwCl (u1 ++ u2) H) : va_P D vwCl u2 H := fun i q hi => hP (u1.length + i) q (by rw [List.getElem?_append_right (by omega), Nat.add_sub_cancel_left]; exact hi)
theorem va_D0 {u : va_W} {n : Nat} (h : u.Pairwise (fun p q => p.1 ≠ q.1)) : va_D (va_A u n) u := by
  rw [va_D_iff]
  refine ⟨h, fun q hq => ?_⟩
  obtain ⟨i, hi⟩ := List.getElem?_of_mem hq
  exact Or.inl ⟨i, q.2, hi⟩
/-- a cell of the script -/
theorem xSld (C : CallFix p m c cc nL s args Ts own) {b L j : Nat} {xs : Nat → Int32} (hX : va_X b L xs s H0) (hbl : b < H0.size) (hbA : ¬ A b) (hS : va_S A H0 H locs) (hj : j < L) (hL : L < 2 ^ 31) (hdg : decode cc pc = .ok (.iaload, 1))
    (kk : W p l e R s m args below meth c H locs cells slots Q (F0 m (pc + 1) ls (.int (xs j) :: rest))) : W p l e R s m args below meth c H locs cells slots Q (F0 m pc ls (.int (nI j) :: .ref b :: rest)) :=
  va_sld C.1 C.2.1 hX hbl hbA hS (vp_in_nI hj hL) hdg (by rw [nI_clamp (Nat.lt_trans hj hL)]; exact kk)
end LW
theorem k4_add (xl : Launch) (D : va_G) (kA : Nat → ClassId) (ox os ob ot : Nat → Nat) (S : Sig) (u : va_W) (hI : InvS S) (hc : ClsR kA ox os ob ot S u) (l k c d z : Int32) (A : Nat → Prop) : Met xl yX4_add wsX4_add { frames := 6, cells := 14, slots := 212, locals := 145 } (va_Pc [.ref (ox 0), .int l, .int k, .int c, .int d, .int z] (xPw D kA A u)) (xQi D A (fun r v => r = (opAdd S l k c d z).1 ∧ ClsR kA ox os ob ot (opAdd S l k c d z).2 v)) 14 212 A := by
  obtain ⟨V, m, P, kt, HH, HB, LL⟩ := S
  obtain ⟨sl, hs, h, tf, tz, f, g, tl, Q, rfl, hr, hpd, hQ⟩ := hc
  exact c_X4_add xl D kA ox os ob ot sl hs h tf tz f g V m kt tl P HH HB LL Q hI hr hpd hQ l k c d z A
theorem k4_strike (xl : Launch) (D : va_G) (kA : Nat → ClassId) (ox os ob ot : Nat → Nat) (S : Sig) (u : va_W) (hI : InvS S) (hc : ClsR kA ox os ob ot S u) (x : Int32) (A : Nat → Prop) : Met xl yX4_strike wsX4_strike { frames := 6, cells := 14, slots := 212, locals := 145 } (va_Pc [.ref (ox 0), .int x] (xPw D kA A u)) (xQi D A (fun r v => r = (opStrike S x).1 ∧ ClsR kA ox os ob ot (opStrike S x).2 v)) 14 212 A := by
  obtain ⟨V, m, P, kt, HH, HB, LL⟩ := S
  obtain ⟨sl, hs, h, tf, tz, f, g, tl, Q, rfl, hr, hpd, hQ⟩ := hc
  exact c_X4_strike xl D kA ox os ob ot sl hs h tf tz f g V m kt tl P HH HB LL Q hI hr hpd hQ x A
theorem k4_seal (xl : Launch) (D : va_G) (kA : Nat → ClassId) (ox os ob ot : Nat → Nat) (S : Sig) (u : va_W) (hI : InvS S) (hc : ClsR kA ox os ob ot S u) (x z : Int32) (A : Nat → Prop) : Met xl yX4_seal wsX4_seal { frames := 6, cells := 14, slots := 212, locals := 145 } (va_Pc [.ref (ox 0), .int x, .int z] (xPw D kA A u)) (xQi D A (fun r v => r = (opSeal S x z).1 ∧ ClsR kA ox os ob ot (opSeal S x z).2 v)) 14 212 A := by
  obtain ⟨V, m, P, kt, HH, HB, LL⟩ := S
  obtain ⟨sl, hs, h, tf, tz, f, g, tl, Q, rfl, hr, hpd, hQ⟩ := hc
  exact c_X4_seal xl D kA ox os ob ot sl hs h tf tz f g V m kt tl P HH HB LL Q hI hr hpd hQ x z A
theorem k4_move (xl : Launch) (D : va_G) (kA : Nat → ClassId) (ox os ob ot : Nat → Nat) (S : Sig) (u : va_W) (hI : InvS S) (hc : ClsR kA ox os ob ot S u) (x l : Int32) (A : Nat → Prop) : Met xl yX4_move wsX4_move { frames := 6, cells := 14, slots := 212, locals := 145 } (va_Pc [.ref (ox 0), .int x, .int l] (xPw D kA A u)) (xQi D A (fun r v => r = (opMove S x l).1 ∧ ClsR kA ox os ob ot (opMove S x l).2 v)) 14 212 A := by
  obtain ⟨V, m, P, kt, HH, HB, LL⟩ := S
  obtain ⟨sl, hs, h, tf, tz, f, g, tl, Q, rfl, hr, hpd, hQ⟩ := hc
  exact c_X4_move xl D kA ox os ob ot sl hs h tf tz f g V m kt tl P HH HB LL Q hI hr hpd hQ x l A
theorem k4_tidy (xl : Launch) (D : va_G) (kA : Nat → ClassId) (ox os ob ot : Nat → Nat) (S : Sig) (u : va_W) (hI : InvS S) (hc : ClsR kA ox os ob ot S u) (A : Nat → Prop) : Met xl yX4_tidy wsX4_tidy { frames := 7, cells := 14, slots := 212, locals := 156 } (va_Pc [.ref (ox 0)] (xPw D kA A u)) (xQi D A (fun r v => r = (opTidy S).1 ∧ ClsR kA ox os ob ot (opTidy S).2 v)) 14 212 A := by
  obtain ⟨V, m, P, kt, HH, HB, LL⟩ := S
  obtain ⟨sl, hs, h, tf, tz, f, g, tl, Q, rfl, hr, hpd, hQ⟩ := hc
  exact c_X4_tidy xl D kA ox os ob ot sl hs h tf tz f g V m kt tl P HH HB LL Q hI hr hpd hQ A
theorem k4_join (xl : Launch) (D : va_G) (kA : Nat → ClassId) (ox os ob ot : Nat → Nat) (S : Sig) (u : va_W) (hI : InvS S) (hc : ClsR kA ox os ob ot S u) (c y : Int32) (A : Nat → Prop) : Met xl yX4_join wsX4_join { frames := 6, cells := 14, slots := 212, locals := 145 } (va_Pc [.ref (ox 0), .int c, .int y] (xPw D kA A u)) (xQi D A (fun r v => r = (opJoin S c y).1 ∧ ClsR kA ox os ob ot (opJoin S c y).2 v)) 14 212 A := by
  obtain ⟨V, m, P, kt, HH, HB, LL⟩ := S
  obtain ⟨sl, hs, h, tf, tz, f, g, tl, Q, rfl, hr, hpd, hQ⟩ := hc
  exact c_X4_join xl D kA ox os ob ot sl hs h tf tz f g V m kt tl P HH HB LL Q hI hr hpd hQ c y A
theorem k4_leave (xl : Launch) (D : va_G) (kA : Nat → ClassId) (ox os ob ot : Nat → Nat) (S : Sig) (u : va_W) (hI : InvS S) (hc : ClsR kA ox os ob ot S u) (x : Int32) (A : Nat → Prop) : Met xl yX4_leave wsX4_leave { frames := 6, cells := 14, slots := 212, locals := 145 } (va_Pc [.ref (ox 0), .int x] (xPw D kA A u)) (xQi D A (fun r v => r = (opLeave S x).1 ∧ ClsR kA ox os ob ot (opLeave S x).2 v)) 14 212 A := by
  obtain ⟨V, m, P, kt, HH, HB, LL⟩ := S
  obtain ⟨sl, hs, h, tf, tz, f, g, tl, Q, rfl, hr, hpd, hQ⟩ := hc
  exact c_X4_leave xl D kA ox os ob ot sl hs h tf tz f g V m kt tl P HH HB LL Q hI hr hpd hQ x A
theorem k4_rank (xl : Launch) (D : va_G) (kA : Nat → ClassId) (ox os ob ot : Nat → Nat) (S : Sig) (u : va_W) (hI : InvS S) (hc : ClsR kA ox os ob ot S u) (x y : Int32) (A : Nat → Prop) : Met xl yX4_rank wsX4_rank { frames := 6, cells := 14, slots := 212, locals := 145 } (va_Pc [.ref (ox 0), .int x, .int y] (xPw D kA A u)) (xQi D A (fun r v => r = (opRank S x y).1 ∧ ClsR kA ox os ob ot (opRank S x y).2 v)) 14 212 A := by
  obtain ⟨V, m, P, kt, HH, HB, LL⟩ := S
  obtain ⟨sl, hs, h, tf, tz, f, g, tl, Q, rfl, hr, hpd, hQ⟩ := hc
  exact c_X4_rank xl D kA ox os ob ot sl hs h tf tz f g V m kt tl P HH HB LL Q hI hr hpd hQ x y A
theorem k4_act (xl : Launch) (D : va_G) (kA : Nat → ClassId) (ox os ob ot : Nat → Nat) (S : Sig) (u : va_W) (hI : InvS S) (hc : ClsR kA ox os ob ot S u) (x d : Int32) (A : Nat → Prop) : Met xl yX4_act wsX4_act { frames := 6, cells := 14, slots := 212, locals := 145 } (va_Pc [.ref (ox 0), .int x, .int d] (xPw D kA A u)) (xQi D A (fun r v => r = (opAct S x d).1 ∧ ClsR kA ox os ob ot (opAct S x d).2 v)) 14 212 A := by
  obtain ⟨V, m, P, kt, HH, HB, LL⟩ := S
  obtain ⟨sl, hs, h, tf, tz, f, g, tl, Q, rfl, hr, hpd, hQ⟩ := hc
  exact c_X4_act xl D kA ox os ob ot sl hs h tf tz f g V m kt tl P HH HB LL Q hI hr hpd hQ x d A
theorem k4_rule (xl : Launch) (D : va_G) (kA : Nat → ClassId) (ox os ob ot : Nat → Nat) (S : Sig) (u : va_W) (hI : InvS S) (hc : ClsR kA ox os ob ot S u) (x w : Int32) (A : Nat → Prop) : Met xl yX4_rule wsX4_rule { frames := 6, cells := 0, slots := 0, locals := 134 } (va_Pc [.ref (ox 0), .int x, .int w] (xPw D kA A u)) (xQi D A (fun r v => r = (opRule S x w).1 ∧ ClsR kA ox os ob ot (opRule S x w).2 v)) 0 0 A := by
  obtain ⟨V, m, P, kt, HH, HB, LL⟩ := S
  obtain ⟨sl, hs, h, tf, tz, f, g, tl, Q, rfl, hr, hpd, hQ⟩ := hc
  exact c_X4_rule xl D kA ox os ob ot sl hs h tf tz f g V m kt tl P HH HB LL Q hI hr hpd hQ x w A
theorem k4_member (xl : Launch) (D : va_G) (kA : Nat → ClassId) (ox os ob ot : Nat → Nat) (S : Sig) (u : va_W) (hI : InvS S) (hc : ClsR kA ox os ob ot S u) (x w : Int32) (A : Nat → Prop) : Met xl yX4_member wsX4_member { frames := 5, cells := 0, slots := 0, locals := 113 } (va_Pc [.ref (ox 0), .int x, .int w] (xPw D kA A u)) (xQi D A (fun r v => r = (opMember S x w).1 ∧ ClsR kA ox os ob ot (opMember S x w).2 v)) 0 0 A := by
  obtain ⟨V, m, P, kt, HH, HB, LL⟩ := S
  obtain ⟨sl, hs, h, tf, tz, f, g, tl, Q, rfl, hr, hpd, hQ⟩ := hc
  exact c_X4_member xl D kA ox os ob ot sl hs h tf tz f g V m kt tl P HH HB LL Q hI hr hpd hQ x w A
theorem k4_allowed (xl : Launch) (D : va_G) (kA : Nat → ClassId) (ox os ob ot : Nat → Nat) (S : Sig) (u : va_W) (hI : InvS S) (hc : ClsR kA ox os ob ot S u) (c d y w : Int32) (A : Nat → Prop) : Met xl yX4_allowed wsX4_allowed { frames := 3, cells := 0, slots := 0, locals := 89 } (va_Pc [.ref (ox 0), .int c, .int d, .int y, .int w] (xPw D kA A u)) (xQi D A (fun r v => r = (opAllowed S c d y w).1 ∧ ClsR kA ox os ob ot (opAllowed S c d y w).2 v)) 0 0 A := by
  obtain ⟨V, m, P, kt, HH, HB, LL⟩ := S
  obtain ⟨sl, hs, h, tf, tz, f, g, tl, Q, rfl, hr, hpd, hQ⟩ := hc
  exact c_X4_allowed xl D kA ox os ob ot sl hs h tf tz f g V m kt tl P HH HB LL Q hI hr hpd hQ c d y w A
theorem k4_why (xl : Launch) (D : va_G) (kA : Nat → ClassId) (ox os ob ot : Nat → Nat) (S : Sig) (u : va_W) (hI : InvS S) (hc : ClsR kA ox os ob ot S u) (c d y : Int32) (A : Nat → Prop) : Met xl yX4_why wsX4_why { frames := 3, cells := 0, slots := 0, locals := 70 } (va_Pc [.ref (ox 0), .int c, .int d, .int y] (xPw D kA A u)) (xQi D A (fun r v => r = (opWhy S c d y).1 ∧ ClsR kA ox os ob ot (opWhy S c d y).2 v)) 0 0 A := by
  obtain ⟨V, m, P, kt, HH, HB, LL⟩ := S
  obtain ⟨sl, hs, h, tf, tz, f, g, tl, Q, rfl, hr, hpd, hQ⟩ := hc
  exact c_X4_why xl D kA ox os ob ot sl hs h tf tz f g V m kt tl P HH HB LL Q hI hr hpd hQ c d y A
theorem k4_count (xl : Launch) (D : va_G) (kA : Nat → ClassId) (ox os ob ot : Nat → Nat) (S : Sig) (u : va_W) (hI : InvS S) (hc : ClsR kA ox os ob ot S u) (w : Int32) (A : Nat → Prop) : Met xl yX4_count wsX4_count { frames := 7, cells := 0, slots := 0, locals := 157 } (va_Pc [.ref (ox 0), .int w] (xPw D kA A u)) (xQi D A (fun r v => r = (opCount S w).1 ∧ ClsR kA ox os ob ot (opCount S w).2 v)) 0 0 A := by
  obtain ⟨V, m, P, kt, HH, HB, LL⟩ := S
  obtain ⟨sl, hs, h, tf, tz, f, g, tl, Q, rfl, hr, hpd, hQ⟩ := hc
  exact c_X4_count xl D kA ox os ob ot sl hs h tf tz f g V m kt tl P HH HB LL Q hI hr hpd hQ w A
theorem k4_leastRank (xl : Launch) (D : va_G) (kA : Nat → ClassId) (ox os ob ot : Nat → Nat) (S : Sig) (u : va_W) (hI : InvS S) (hc : ClsR kA ox os ob ot S u) (c d : Int32) (A : Nat → Prop) : Met xl yX4_leastRank wsX4_leastRank { frames := 4, cells := 0, slots := 0, locals := 90 } (va_Pc [.ref (ox 0), .int c, .int d] (xPw D kA A u)) (xQi D A (fun r v => r = (opLeast S c d).1 ∧ ClsR kA ox os ob ot (opLeast S c d).2 v)) 0 0 A := by
  obtain ⟨V, m, P, kt, HH, HB, LL⟩ := S
  obtain ⟨sl, hs, h, tf, tz, f, g, tl, Q, rfl, hr, hpd, hQ⟩ := hc
  exact c_X4_leastRank xl D kA ox os ob ot sl hs h tf tz f g V m kt tl P HH HB LL Q hI hr hpd hQ c d A
theorem k4_ifStruck (xl : Launch) (D : va_G) (kA : Nat → ClassId) (ox os ob ot : Nat → Nat) (S : Sig) (u : va_W) (hI : InvS S) (hc : ClsR kA ox os ob ot S u) (x : Int32) (A : Nat → Prop) : Met xl yX4_ifStruck wsX4_ifStruck { frames := 5, cells := 0, slots := 0, locals := 112 } (va_Pc [.ref (ox 0), .int x] (xPw D kA A u)) (xQi D A (fun r v => r = (opIf S x).1 ∧ ClsR kA ox os ob ot (opIf S x).2 v)) 0 0 A := by
  obtain ⟨V, m, P, kt, HH, HB, LL⟩ := S
  obtain ⟨sl, hs, h, tf, tz, f, g, tl, Q, rfl, hr, hpd, hQ⟩ := hc
  exact c_X4_ifStruck xl D kA ox os ob ot sl hs h tf tz f g V m kt tl P HH HB LL Q hI hr hpd hQ x A
theorem k4_worstBan (xl : Launch) (D : va_G) (kA : Nat → ClassId) (ox os ob ot : Nat → Nat) (S : Sig) (u : va_W) (hI : InvS S) (hc : ClsR kA ox os ob ot S u) (A : Nat → Prop) : Met xl yX4_worstBan wsX4_worstBan { frames := 5, cells := 0, slots := 0, locals := 112 } (va_Pc [.ref (ox 0)] (xPw D kA A u)) (xQi D A (fun r v => r = (opWorst S).1 ∧ ClsR kA ox os ob ot (opWorst S).2 v)) 0 0 A := by
  obtain ⟨V, m, P, kt, HH, HB, LL⟩ := S
  obtain ⟨sl, hs, h, tf, tz, f, g, tl, Q, rfl, hr, hpd, hQ⟩ := hc
  exact c_X4_worstBan xl D kA ox os ob ot sl hs h tf tz f g V m kt tl P HH HB LL Q hI hr hpd hQ A
theorem k4_bestWaiver (xl : Launch) (D : va_G) (kA : Nat → ClassId) (ox os ob ot : Nat → Nat) (S : Sig) (u : va_W) (hI : InvS S) (hc : ClsR kA ox os ob ot S u) (z : Int32) (A : Nat → Prop) : Met xl yX4_bestWaiver wsX4_bestWaiver { frames := 5, cells := 0, slots := 0, locals := 113 } (va_Pc [.ref (ox 0), .int z] (xPw D kA A u)) (xQi D A (fun r v => r = (opBest S z).1 ∧ ClsR kA ox os ob ot (opBest S z).2 v)) 0 0 A := by
  obtain ⟨V, m, P, kt, HH, HB, LL⟩ := S
  obtain ⟨sl, hs, h, tf, tz, f, g, tl, Q, rfl, hr, hpd, hQ⟩ := hc
  exact c_X4_bestWaiver xl D kA ox os ob ot sl hs h tf tz f g V m kt tl P HH HB LL Q hI hr hpd hQ z A
theorem k4_undo (xl : Launch) (D : va_G) (kA : Nat → ClassId) (ox os ob ot : Nat → Nat) (S : Sig) (u : va_W) (hI : InvS S) (hc : ClsR kA ox os ob ot S u) (A : Nat → Prop) : Met xl yX4_undo wsX4_undo { frames := 4, cells := 0, slots := 0, locals := 103 } (va_Pc [.ref (ox 0)] (xPw D kA A u)) (xQi D A (fun r v => r = (opUndo S).1 ∧ ClsR kA ox os ob ot (opUndo S).2 v)) 0 0 A := by
  obtain ⟨V, m, P, kt, HH, HB, LL⟩ := S
  obtain ⟨sl, hs, h, tf, tz, f, g, tl, Q, rfl, hr, hpd, hQ⟩ := hc
  exact c_X4_undo xl D kA ox os ob ot sl hs h tf tz f g V m kt tl P HH HB LL Q hI hr hpd hQ A
theorem cls_at {kA : Nat → ClassId} {ox os ob ot : Nat → Nat} {S : Sig} {u : va_W} (h : ClsR kA ox os ob ot S u) : ∃ fs, u[0]? = some (ox 0, .inr (4, fs)) := by
  obtain ⟨V, m, P, kt, HH, HB, LL⟩ := S
  obtain ⟨sl, hs, h, tf, tz, f, g, tl, Q, rfl, _⟩ := h
  exact ⟨_, rfl⟩
theorem va_Da {A : Nat → Prop} {u1 u2 : va_W} {n : Nat} (h : va_D A (u1 ++ u2)) : va_D (va_A u1 n) u1 := va_D0 (List.pairwise_append.mp (va_D_iff.mp h).1).1
theorem va_Db {A : Nat → Prop} {u1 u2 : va_W} {n : Nat} (h : va_D A (u1 ++ u2)) : va_D (va_A u2 n) u2 := va_D0 (List.pairwise_append.mp (va_D_iff.mp h).1).2.1
theorem i_rule {S : Sig} {x w : Int32} (h : InvS S) : InvS (opRule S x w).2 := by
  obtain ⟨V, m, P, kt, H, B, L⟩ := S
  exact h
theorem i_member {S : Sig} {x w : Int32} (h : InvS S) : InvS (opMember S x w).2 := by
  obtain ⟨V, m, P, kt, H, B, L⟩ := S
  exact h
theorem i_allowed {S : Sig} {c d y w : Int32} (h : InvS S) : InvS (opAllowed S c d y w).2 := by
  obtain ⟨V, m, P, kt, H, B, L⟩ := S
  exact h
theorem i_why {S : Sig} {c d y : Int32} (h : InvS S) : InvS (opWhy S c d y).2 := by
  obtain ⟨V, m, P, kt, H, B, L⟩ := S
  exact h
theorem i_count {S : Sig} {w : Int32} (h : InvS S) : InvS (opCount S w).2 := by
  obtain ⟨V, m, P, kt, H, B, L⟩ := S
  exact h
theorem i_leastRank {S : Sig} {c d : Int32} (h : InvS S) : InvS (opLeast S c d).2 := by
  obtain ⟨V, m, P, kt, H, B, L⟩ := S
  exact h
theorem i_ifStruck {S : Sig} {x : Int32} (h : InvS S) : InvS (opIf S x).2 := by
  obtain ⟨V, m, P, kt, H, B, L⟩ := S
  exact h
theorem i_worstBan {S : Sig} (h : InvS S) : InvS (opWorst S).2 := by
  obtain ⟨V, m, P, kt, H, B, L⟩ := S
  exact h
theorem i_bestWaiver {S : Sig} {z : Int32} (h : InvS S) : InvS (opBest S z).2 := by
  obtain ⟨V, m, P, kt, H, B, L⟩ := S
  exact h
