/-! The law: rows for a world of two parts, and each call on both sides. -/
section LW
variable {p : Program} {l : Launch} {e : Env} {R : Room} {s : State} {m : MethodId} {args : Array Value} {below : List Frame} {meth : Method} {c : Code} {H : Heap} {locs : List Loc} {cells slots : Nat} {Q : State → Prop}
variable {cc : ByteArray} {pc nL : Nat} {ls : Array Slot} {rest st0 : List Value} {Ts : List Cond} {own : String} {D : va_G} {k : Nat → ClassId} {A : Nat → Prop} {H0 : Heap}
theorem rng1 (u1 u2 : va_W) : (List.range u1.length).map (fun i => (u1 ++ u2)[i]?) = u1.map some := by
  apply List.ext_getElem?
  intro i
  rw [List.getElem?_map, List.getElem?_map]
  by_cases h : i < u1.length
  · rw [List.getElem?_range h, Option.map_some, List.getElem?_append_left h, List.getElem?_eq_getElem h]; rfl
  · rw [List.getElem?_eq_none (by rw [List.length_range]; omega), List.getElem?_eq_none (by omega)]; rfl
theorem rng2 (u1 u2 : va_W) : ((List.range u2.length).map (fun i => u1.length + i)).map (fun i => (u1 ++ u2)[i]?) = u2.map some := by
  apply List.ext_getElem?
  intro i
  rw [List.getElem?_map, List.getElem?_map, List.getElem?_map]
  by_cases h : i < u2.length
  · rw [List.getElem?_range h, Option.map_some, Option.map_some, List.getElem?_append_right (by omega), Nat.add_sub_cancel_left, List.getElem?_eq_getElem h]; rfl
  · rw [List.getElem?_eq_none (by rw [List.length_range]; omega), List.getElem?_eq_none (by omega)]; rfl
theorem nd_of : ∀ {l : List Nat}, l.Nodup → va_nd l = true
  | [], _ => rfl
  | a :: l, h => by
    rw [List.nodup_cons] at h
    rw [va_nd, nd_of h.2, decide_eq_true h.1]; rfl
theorem nd_r1 (n : Nat) : va_nd (List.range n) = true := nd_of List.nodup_range
theorem nd_r2 (a n : Nat) : va_nd ((List.range n).map (fun i => a + i)) = true := by
  apply nd_of
  rw [List.nodup_iff_pairwise_ne, List.pairwise_map]
  exact (List.nodup_range (n := n)).imp (fun h e => h (by omega))
theorem xLaw1 {u1 u2 : va_W} {post : Int32 → va_W → Prop} {a : Array Value} {mc ms : Nat} (hP : va_P D vwCl (u1 ++ u2) H) (hD : va_D A (u1 ++ u2)) (hS : va_S A H0 H locs) (hA : ∀ q : Nat, H0.size ≤ q → A q)
    (hr : va_Run p l e R s m args below meth c H locs cells slots mc ms (F0 m pc ls st0) rest (xQi D (va_A u1 H.size) post a) (va_A u1 H.size))
    (kk : ∀ (r : Int32) (u : va_W) (H1 : Heap) (locs1 : List Loc), post r u → va_P D vwCl (u ++ u2) H1 → va_D A (u ++ u2) → va_S A H0 H1 locs1 → W p l e R s m args below meth c H1 locs1 (cells + mc) (slots + ms) Q (F0 m (pc + 3) ls (.int r :: rest))) : W p l e R s m args below meth c H locs cells slots Q (F0 m pc ls st0) := by
  refine xWi (L := u1 ++ u2) (tl := []) (wc := u1) (wr := u2) (by rw [List.append_nil]; exact hP) (by rw [List.append_nil]; exact hD) hS hA (List.range u1.length) ((List.range u2.length).map (fun i => u1.length + i)) (rng1 u1 u2) (rng2 u1 u2) (nd_r2 _ _) ?_ hr (fun r u H1 locs1 hp hP1 hD1 hS1 => ?_)
  · intro i hi h
    obtain ⟨j, _, rfl⟩ := List.mem_map.mp hi
    have := List.mem_range.mp h; omega
  · rw [List.append_nil] at hP1 hD1
    exact kk r u H1 locs1 hp (xPerP hP1 List.perm_append_comm) (xPerD hD1 List.perm_append_comm) hS1
theorem xLaw2 {u1 u2 : va_W} {post : Int32 → va_W → Prop} {a : Array Value} {mc ms : Nat} (hP : va_P D vwCl (u1 ++ u2) H) (hD : va_D A (u1 ++ u2)) (hS : va_S A H0 H locs) (hA : ∀ q : Nat, H0.size ≤ q → A q)
    (hr : va_Run p l e R s m args below meth c H locs cells slots mc ms (F0 m pc ls st0) rest (xQi D (va_A u2 H.size) post a) (va_A u2 H.size))
    (kk : ∀ (r : Int32) (u : va_W) (H1 : Heap) (locs1 : List Loc), post r u → va_P D vwCl (u1 ++ u) H1 → va_D A (u1 ++ u) → va_S A H0 H1 locs1 → W p l e R s m args below meth c H1 locs1 (cells + mc) (slots + ms) Q (F0 m (pc + 3) ls (.int r :: rest))) : W p l e R s m args below meth c H locs cells slots Q (F0 m pc ls st0) := by
  refine xWi (L := u1 ++ u2) (tl := []) (wc := u2) (wr := u1) (by rw [List.append_nil]; exact hP) (by rw [List.append_nil]; exact hD) hS hA ((List.range u2.length).map (fun i => u1.length + i)) (List.range u1.length) (rng2 u1 u2) (rng1 u1 u2) (nd_r1 _) ?_ hr (fun r u H1 locs1 hp hP1 hD1 hS1 => ?_)
  · intro i hi h
    obtain ⟨j, _, e⟩ := List.mem_map.mp h
    have := List.mem_range.mp hi; omega
  · rw [List.append_nil] at hP1 hD1
    exact kk r u H1 locs1 hp hP1 hD1 hS1
theorem va_P1 {u1 u2 : va_W} (hP : va_P D vwCl (u1 ++ u2) H) : va_P D vwCl u1 H := fun i q hi => hP i q (by rw [List.getElem?_append_left (List.getElem?_eq_some_iff.mp hi).1]; exact hi)
theorem va_P2 {u1 u2 : va_W} (hP : va_P D vwCl (u1 ++ u2) H) : va_P D vwCl u2 H := fun i q hi => hP (u1.length + i) q (by rw [List.getElem?_append_right (by omega), Nat.add_sub_cancel_left]; exact hi)
theorem va_D0 {u : va_W} {n : Nat} (h : u.Pairwise (fun p q => p.1 ≠ q.1)) : va_D (va_A u n) u := by
  rw [va_D_iff]
  refine ⟨h, fun q hq => ?_⟩
  obtain ⟨i, hi⟩ := List.getElem?_of_mem hq
  exact Or.inl ⟨i, q.2, hi⟩
/-- a cell of the script -/
theorem xSld (C : CallFix p m c cc nL s args Ts own) {b L j : Nat} {xs : Nat → Int32} (hX : va_X b L xs s H0) (hbl : b < H0.size) (hbA : ¬ A b) (hS : va_S A H0 H locs) (hj : j < L) (hL : L < 2 ^ 31) (hdg : decode cc pc = .ok (.iaload, 1))
    (kk : W p l e R s m args below meth c H locs cells slots Q (F0 m (pc + 1) ls (.int (xs j) :: rest))) : W p l e R s m args below meth c H locs cells slots Q (F0 m pc ls (.int (nI j) :: .ref b :: rest)) :=
  va_sld C.1 C.2.1 hX hbl hbA hS (vp_in_nI hj hL) hdg (by rw [nI_clamp (Nat.lt_trans hj hL)]; exact kk)
end LW
theorem k4_add (xl : Launch) (D : va_G) (kA : Nat → ClassId) (ox os ob ot : Nat → Nat) (S : Sig) (u : va_W) (hI : InvS S) (hc : ClsR kA ox os ob ot S u) (l k c d z : Int32) (A : Nat → Prop) : Met xl yX4_add wsX4_add { frames := 6, cells := 14, slots := 212, locals := 145 } (va_Pc [.ref (ox 0), .int l, .int k, .int c, .int d, .int z] (xPw D kA A u)) (xQi D A (fun r v => r = (opAdd S l k c d z).1 ∧ ClsR kA ox os ob ot (opAdd S l k c d z).2 v)) 14 212 A := by
  obtain ⟨V, m, P, kt, HH, HB, LL⟩ := S
  obtain ⟨sl, hs, h, tf, tz, f, g, tl, Q, rfl, hr, hpd, hQ⟩ := hc
  exact c_X4_add xl D kA ox os ob ot sl hs h tf tz f g V m kt tl P HH HB LL Q hI hr hpd hQ l k c d z A
theorem k5_add (xl : Launch) (D : va_G) (kA : Nat → ClassId) (a : Nat → Nat) (S : Sig) (u : va_W) (hI : InvS S) (hc : ModR kA a S u) (l k c d z : Int32) (A : Nat → Prop) : Met xl yX5_add wsX5_add { frames := 2, cells := 0, slots := 0, locals := 47 } (va_Pc [.ref (a 0), .int l, .int k, .int c, .int d, .int z] (xPw D kA A u)) (xQi D A (fun r v => r = (opAdd S l k c d z).1 ∧ ModR kA a (opAdd S l k c d z).2 v)) 0 0 A := by
  obtain ⟨V, m, P, kt, HH, HB, LL⟩ := S
  obtain ⟨hs, sl, sv, pd, sg, td, rfl, hH, hpd, hsv⟩ := hc
  exact c_X5_add xl D kA a V hs sl sv pd sg kt m td P HH HB LL hI hH hpd hsv l k c d z A
theorem k4_strike (xl : Launch) (D : va_G) (kA : Nat → ClassId) (ox os ob ot : Nat → Nat) (S : Sig) (u : va_W) (hI : InvS S) (hc : ClsR kA ox os ob ot S u) (x : Int32) (A : Nat → Prop) : Met xl yX4_strike wsX4_strike { frames := 6, cells := 14, slots := 212, locals := 145 } (va_Pc [.ref (ox 0), .int x] (xPw D kA A u)) (xQi D A (fun r v => r = (opStrike S x).1 ∧ ClsR kA ox os ob ot (opStrike S x).2 v)) 14 212 A := by
  obtain ⟨V, m, P, kt, HH, HB, LL⟩ := S
  obtain ⟨sl, hs, h, tf, tz, f, g, tl, Q, rfl, hr, hpd, hQ⟩ := hc
  exact c_X4_strike xl D kA ox os ob ot sl hs h tf tz f g V m kt tl P HH HB LL Q hI hr hpd hQ x A
theorem k5_strike (xl : Launch) (D : va_G) (kA : Nat → ClassId) (a : Nat → Nat) (S : Sig) (u : va_W) (hI : InvS S) (hc : ModR kA a S u) (x : Int32) (A : Nat → Prop) : Met xl yX5_strike wsX5_strike { frames := 2, cells := 0, slots := 0, locals := 43 } (va_Pc [.ref (a 0), .int x] (xPw D kA A u)) (xQi D A (fun r v => r = (opStrike S x).1 ∧ ModR kA a (opStrike S x).2 v)) 0 0 A := by
  obtain ⟨V, m, P, kt, HH, HB, LL⟩ := S
  obtain ⟨hs, sl, sv, pd, sg, td, rfl, hH, hpd, hsv⟩ := hc
  exact c_X5_strike xl D kA a V hs sl sv pd sg kt m td P HH HB LL hI hH hpd hsv x A
theorem k4_seal (xl : Launch) (D : va_G) (kA : Nat → ClassId) (ox os ob ot : Nat → Nat) (S : Sig) (u : va_W) (hI : InvS S) (hc : ClsR kA ox os ob ot S u) (x z : Int32) (A : Nat → Prop) : Met xl yX4_seal wsX4_seal { frames := 6, cells := 14, slots := 212, locals := 145 } (va_Pc [.ref (ox 0), .int x, .int z] (xPw D kA A u)) (xQi D A (fun r v => r = (opSeal S x z).1 ∧ ClsR kA ox os ob ot (opSeal S x z).2 v)) 14 212 A := by
  obtain ⟨V, m, P, kt, HH, HB, LL⟩ := S
  obtain ⟨sl, hs, h, tf, tz, f, g, tl, Q, rfl, hr, hpd, hQ⟩ := hc
  exact c_X4_seal xl D kA ox os ob ot sl hs h tf tz f g V m kt tl P HH HB LL Q hI hr hpd hQ x z A
theorem k5_seal (xl : Launch) (D : va_G) (kA : Nat → ClassId) (a : Nat → Nat) (S : Sig) (u : va_W) (hI : InvS S) (hc : ModR kA a S u) (x z : Int32) (A : Nat → Prop) : Met xl yX5_seal wsX5_seal { frames := 2, cells := 0, slots := 0, locals := 44 } (va_Pc [.ref (a 0), .int x, .int z] (xPw D kA A u)) (xQi D A (fun r v => r = (opSeal S x z).1 ∧ ModR kA a (opSeal S x z).2 v)) 0 0 A := by
  obtain ⟨V, m, P, kt, HH, HB, LL⟩ := S
  obtain ⟨hs, sl, sv, pd, sg, td, rfl, hH, hpd, hsv⟩ := hc
  exact c_X5_seal xl D kA a V hs sl sv pd sg kt m td P HH HB LL hI hH hpd hsv x z A
theorem k4_move (xl : Launch) (D : va_G) (kA : Nat → ClassId) (ox os ob ot : Nat → Nat) (S : Sig) (u : va_W) (hI : InvS S) (hc : ClsR kA ox os ob ot S u) (x l : Int32) (A : Nat → Prop) : Met xl yX4_move wsX4_move { frames := 6, cells := 14, slots := 212, locals := 145 } (va_Pc [.ref (ox 0), .int x, .int l] (xPw D kA A u)) (xQi D A (fun r v => r = (opMove S x l).1 ∧ ClsR kA ox os ob ot (opMove S x l).2 v)) 14 212 A := by
  obtain ⟨V, m, P, kt, HH, HB, LL⟩ := S
  obtain ⟨sl, hs, h, tf, tz, f, g, tl, Q, rfl, hr, hpd, hQ⟩ := hc
  exact c_X4_move xl D kA ox os ob ot sl hs h tf tz f g V m kt tl P HH HB LL Q hI hr hpd hQ x l A
theorem k5_move (xl : Launch) (D : va_G) (kA : Nat → ClassId) (a : Nat → Nat) (S : Sig) (u : va_W) (hI : InvS S) (hc : ModR kA a S u) (x l : Int32) (A : Nat → Prop) : Met xl yX5_move wsX5_move { frames := 2, cells := 0, slots := 0, locals := 44 } (va_Pc [.ref (a 0), .int x, .int l] (xPw D kA A u)) (xQi D A (fun r v => r = (opMove S x l).1 ∧ ModR kA a (opMove S x l).2 v)) 0 0 A := by
  obtain ⟨V, m, P, kt, HH, HB, LL⟩ := S
  obtain ⟨hs, sl, sv, pd, sg, td, rfl, hH, hpd, hsv⟩ := hc
  exact c_X5_move xl D kA a V hs sl sv pd sg kt m td P HH HB LL hI hH hpd hsv x l A
theorem k4_read (xl : Launch) (D : va_G) (kA : Nat → ClassId) (ox os ob ot : Nat → Nat) (S : Sig) (u : va_W) (hI : InvS S) (hc : ClsR kA ox os ob ot S u) (A : Nat → Prop) : Met xl yX4_read wsX4_read { frames := 6, cells := 14, slots := 212, locals := 145 } (va_Pc [.ref (ox 0)] (xPw D kA A u)) (xQi D A (fun r v => r = (opRead S).1 ∧ ClsR kA ox os ob ot (opRead S).2 v)) 14 212 A := by
  obtain ⟨V, m, P, kt, HH, HB, LL⟩ := S
  obtain ⟨sl, hs, h, tf, tz, f, g, tl, Q, rfl, hr, hpd, hQ⟩ := hc
  exact c_X4_read xl D kA ox os ob ot sl hs h tf tz f g V m kt tl P HH HB LL Q hI hr hpd hQ A
theorem k5_read (xl : Launch) (D : va_G) (kA : Nat → ClassId) (a : Nat → Nat) (S : Sig) (u : va_W) (hI : InvS S) (hc : ModR kA a S u) (A : Nat → Prop) : Met xl yX5_read wsX5_read { frames := 3, cells := 0, slots := 0, locals := 67 } (va_Pc [.ref (a 0)] (xPw D kA A u)) (xQi D A (fun r v => r = (opRead S).1 ∧ ModR kA a (opRead S).2 v)) 0 0 A := by
  obtain ⟨V, m, P, kt, HH, HB, LL⟩ := S
  obtain ⟨hs, sl, sv, pd, sg, td, rfl, hH, hpd, hsv⟩ := hc
  exact c_X5_read xl D kA a V hs sl sv pd sg kt m td P HH HB LL hI hH hpd hsv A
theorem k4_tidy (xl : Launch) (D : va_G) (kA : Nat → ClassId) (ox os ob ot : Nat → Nat) (S : Sig) (u : va_W) (hI : InvS S) (hc : ClsR kA ox os ob ot S u) (A : Nat → Prop) : Met xl yX4_tidy wsX4_tidy { frames := 7, cells := 14, slots := 212, locals := 156 } (va_Pc [.ref (ox 0)] (xPw D kA A u)) (xQi D A (fun r v => r = (opTidy S).1 ∧ ClsR kA ox os ob ot (opTidy S).2 v)) 14 212 A := by
  obtain ⟨V, m, P, kt, HH, HB, LL⟩ := S
  obtain ⟨sl, hs, h, tf, tz, f, g, tl, Q, rfl, hr, hpd, hQ⟩ := hc
  exact c_X4_tidy xl D kA ox os ob ot sl hs h tf tz f g V m kt tl P HH HB LL Q hI hr hpd hQ A
theorem k5_tidy (xl : Launch) (D : va_G) (kA : Nat → ClassId) (a : Nat → Nat) (S : Sig) (u : va_W) (hI : InvS S) (hc : ModR kA a S u) (A : Nat → Prop) : Met xl yX5_tidy wsX5_tidy { frames := 8, cells := 0, slots := 0, locals := 187 } (va_Pc [.ref (a 0)] (xPw D kA A u)) (xQi D A (fun r v => r = (opTidy S).1 ∧ ModR kA a (opTidy S).2 v)) 0 0 A := by
  obtain ⟨V, m, P, kt, HH, HB, LL⟩ := S
  obtain ⟨hs, sl, sv, pd, sg, td, rfl, hH, hpd, hsv⟩ := hc
  exact c_X5_tidy xl D kA a V hs sl sv pd sg kt m td P HH HB LL hI hH hpd hsv A
theorem k4_join (xl : Launch) (D : va_G) (kA : Nat → ClassId) (ox os ob ot : Nat → Nat) (S : Sig) (u : va_W) (hI : InvS S) (hc : ClsR kA ox os ob ot S u) (c y : Int32) (A : Nat → Prop) : Met xl yX4_join wsX4_join { frames := 6, cells := 14, slots := 212, locals := 145 } (va_Pc [.ref (ox 0), .int c, .int y] (xPw D kA A u)) (xQi D A (fun r v => r = (opJoin S c y).1 ∧ ClsR kA ox os ob ot (opJoin S c y).2 v)) 14 212 A := by
  obtain ⟨V, m, P, kt, HH, HB, LL⟩ := S
  obtain ⟨sl, hs, h, tf, tz, f, g, tl, Q, rfl, hr, hpd, hQ⟩ := hc
  exact c_X4_join xl D kA ox os ob ot sl hs h tf tz f g V m kt tl P HH HB LL Q hI hr hpd hQ c y A
theorem k5_join (xl : Launch) (D : va_G) (kA : Nat → ClassId) (a : Nat → Nat) (S : Sig) (u : va_W) (hI : InvS S) (hc : ModR kA a S u) (c y : Int32) (A : Nat → Prop) : Met xl yX5_join wsX5_join { frames := 1, cells := 0, slots := 0, locals := 22 } (va_Pc [.ref (a 0), .int c, .int y] (xPw D kA A u)) (xQi D A (fun r v => r = (opJoin S c y).1 ∧ ModR kA a (opJoin S c y).2 v)) 0 0 A := by
  obtain ⟨V, m, P, kt, HH, HB, LL⟩ := S
  obtain ⟨hs, sl, sv, pd, sg, td, rfl, hH, hpd, hsv⟩ := hc
  exact c_X5_join xl D kA a V hs sl sv pd sg kt m td P HH HB LL hI hH hpd hsv c y A
theorem k4_leave (xl : Launch) (D : va_G) (kA : Nat → ClassId) (ox os ob ot : Nat → Nat) (S : Sig) (u : va_W) (hI : InvS S) (hc : ClsR kA ox os ob ot S u) (x : Int32) (A : Nat → Prop) : Met xl yX4_leave wsX4_leave { frames := 6, cells := 14, slots := 212, locals := 145 } (va_Pc [.ref (ox 0), .int x] (xPw D kA A u)) (xQi D A (fun r v => r = (opLeave S x).1 ∧ ClsR kA ox os ob ot (opLeave S x).2 v)) 14 212 A := by
  obtain ⟨V, m, P, kt, HH, HB, LL⟩ := S
  obtain ⟨sl, hs, h, tf, tz, f, g, tl, Q, rfl, hr, hpd, hQ⟩ := hc
  exact c_X4_leave xl D kA ox os ob ot sl hs h tf tz f g V m kt tl P HH HB LL Q hI hr hpd hQ x A
theorem k5_leave (xl : Launch) (D : va_G) (kA : Nat → ClassId) (a : Nat → Nat) (S : Sig) (u : va_W) (hI : InvS S) (hc : ModR kA a S u) (x : Int32) (A : Nat → Prop) : Met xl yX5_leave wsX5_leave { frames := 2, cells := 0, slots := 0, locals := 43 } (va_Pc [.ref (a 0), .int x] (xPw D kA A u)) (xQi D A (fun r v => r = (opLeave S x).1 ∧ ModR kA a (opLeave S x).2 v)) 0 0 A := by
  obtain ⟨V, m, P, kt, HH, HB, LL⟩ := S
  obtain ⟨hs, sl, sv, pd, sg, td, rfl, hH, hpd, hsv⟩ := hc
  exact c_X5_leave xl D kA a V hs sl sv pd sg kt m td P HH HB LL hI hH hpd hsv x A
theorem k4_rank (xl : Launch) (D : va_G) (kA : Nat → ClassId) (ox os ob ot : Nat → Nat) (S : Sig) (u : va_W) (hI : InvS S) (hc : ClsR kA ox os ob ot S u) (x y : Int32) (A : Nat → Prop) : Met xl yX4_rank wsX4_rank { frames := 6, cells := 14, slots := 212, locals := 145 } (va_Pc [.ref (ox 0), .int x, .int y] (xPw D kA A u)) (xQi D A (fun r v => r = (opRank S x y).1 ∧ ClsR kA ox os ob ot (opRank S x y).2 v)) 14 212 A := by
  obtain ⟨V, m, P, kt, HH, HB, LL⟩ := S
  obtain ⟨sl, hs, h, tf, tz, f, g, tl, Q, rfl, hr, hpd, hQ⟩ := hc
  exact c_X4_rank xl D kA ox os ob ot sl hs h tf tz f g V m kt tl P HH HB LL Q hI hr hpd hQ x y A
theorem k5_rank (xl : Launch) (D : va_G) (kA : Nat → ClassId) (a : Nat → Nat) (S : Sig) (u : va_W) (hI : InvS S) (hc : ModR kA a S u) (x y : Int32) (A : Nat → Prop) : Met xl yX5_rank wsX5_rank { frames := 2, cells := 0, slots := 0, locals := 44 } (va_Pc [.ref (a 0), .int x, .int y] (xPw D kA A u)) (xQi D A (fun r v => r = (opRank S x y).1 ∧ ModR kA a (opRank S x y).2 v)) 0 0 A := by
  obtain ⟨V, m, P, kt, HH, HB, LL⟩ := S
  obtain ⟨hs, sl, sv, pd, sg, td, rfl, hH, hpd, hsv⟩ := hc
  exact c_X5_rank xl D kA a V hs sl sv pd sg kt m td P HH HB LL hI hH hpd hsv x y A
theorem k4_act (xl : Launch) (D : va_G) (kA : Nat → ClassId) (ox os ob ot : Nat → Nat) (S : Sig) (u : va_W) (hI : InvS S) (hc : ClsR kA ox os ob ot S u) (x d : Int32) (A : Nat → Prop) : Met xl yX4_act wsX4_act { frames := 6, cells := 14, slots := 212, locals := 145 } (va_Pc [.ref (ox 0), .int x, .int d] (xPw D kA A u)) (xQi D A (fun r v => r = (opAct S x d).1 ∧ ClsR kA ox os ob ot (opAct S x d).2 v)) 14 212 A := by
  obtain ⟨V, m, P, kt, HH, HB, LL⟩ := S
  obtain ⟨sl, hs, h, tf, tz, f, g, tl, Q, rfl, hr, hpd, hQ⟩ := hc
  exact c_X4_act xl D kA ox os ob ot sl hs h tf tz f g V m kt tl P HH HB LL Q hI hr hpd hQ x d A
theorem k5_act (xl : Launch) (D : va_G) (kA : Nat → ClassId) (a : Nat → Nat) (S : Sig) (u : va_W) (hI : InvS S) (hc : ModR kA a S u) (x d : Int32) (A : Nat → Prop) : Met xl yX5_act wsX5_act { frames := 7, cells := 0, slots := 0, locals := 170 } (va_Pc [.ref (a 0), .int x, .int d] (xPw D kA A u)) (xQi D A (fun r v => r = (opAct S x d).1 ∧ ModR kA a (opAct S x d).2 v)) 0 0 A := by
  obtain ⟨V, m, P, kt, HH, HB, LL⟩ := S
  obtain ⟨hs, sl, sv, pd, sg, td, rfl, hH, hpd, hsv⟩ := hc
  exact c_X5_act xl D kA a V hs sl sv pd sg kt m td P HH HB LL hI hH hpd hsv x d A
theorem k4_rule (xl : Launch) (D : va_G) (kA : Nat → ClassId) (ox os ob ot : Nat → Nat) (S : Sig) (u : va_W) (hI : InvS S) (hc : ClsR kA ox os ob ot S u) (x w : Int32) (A : Nat → Prop) : Met xl yX4_rule wsX4_rule { frames := 6, cells := 0, slots := 0, locals := 134 } (va_Pc [.ref (ox 0), .int x, .int w] (xPw D kA A u)) (xQi D A (fun r v => r = (opRule S x w).1 ∧ ClsR kA ox os ob ot (opRule S x w).2 v)) 0 0 A := by
  obtain ⟨V, m, P, kt, HH, HB, LL⟩ := S
  obtain ⟨sl, hs, h, tf, tz, f, g, tl, Q, rfl, hr, hpd, hQ⟩ := hc
  exact c_X4_rule xl D kA ox os ob ot sl hs h tf tz f g V m kt tl P HH HB LL Q hI hr hpd hQ x w A
theorem k5_rule (xl : Launch) (D : va_G) (kA : Nat → ClassId) (a : Nat → Nat) (S : Sig) (u : va_W) (hI : InvS S) (hc : ModR kA a S u) (x w : Int32) (A : Nat → Prop) : Met xl yX5_rule wsX5_rule { frames := 7, cells := 0, slots := 0, locals := 166 } (va_Pc [.ref (a 0), .int x, .int w] (xPw D kA A u)) (xQi D A (fun r v => r = (opRule S x w).1 ∧ ModR kA a (opRule S x w).2 v)) 0 0 A := by
  obtain ⟨V, m, P, kt, HH, HB, LL⟩ := S
  obtain ⟨hs, sl, sv, pd, sg, td, rfl, hH, hpd, hsv⟩ := hc
  exact c_X5_rule xl D kA a V hs sl sv pd sg kt m td P HH HB LL hI hH hpd hsv x w A
theorem k4_member (xl : Launch) (D : va_G) (kA : Nat → ClassId) (ox os ob ot : Nat → Nat) (S : Sig) (u : va_W) (hI : InvS S) (hc : ClsR kA ox os ob ot S u) (x w : Int32) (A : Nat → Prop) : Met xl yX4_member wsX4_member { frames := 5, cells := 0, slots := 0, locals := 113 } (va_Pc [.ref (ox 0), .int x, .int w] (xPw D kA A u)) (xQi D A (fun r v => r = (opMember S x w).1 ∧ ClsR kA ox os ob ot (opMember S x w).2 v)) 0 0 A := by
  obtain ⟨V, m, P, kt, HH, HB, LL⟩ := S
  obtain ⟨sl, hs, h, tf, tz, f, g, tl, Q, rfl, hr, hpd, hQ⟩ := hc
  exact c_X4_member xl D kA ox os ob ot sl hs h tf tz f g V m kt tl P HH HB LL Q hI hr hpd hQ x w A
theorem k5_member (xl : Launch) (D : va_G) (kA : Nat → ClassId) (a : Nat → Nat) (S : Sig) (u : va_W) (hI : InvS S) (hc : ModR kA a S u) (x w : Int32) (A : Nat → Prop) : Met xl yX5_member wsX5_member { frames := 7, cells := 0, slots := 0, locals := 166 } (va_Pc [.ref (a 0), .int x, .int w] (xPw D kA A u)) (xQi D A (fun r v => r = (opMember S x w).1 ∧ ModR kA a (opMember S x w).2 v)) 0 0 A := by
  obtain ⟨V, m, P, kt, HH, HB, LL⟩ := S
  obtain ⟨hs, sl, sv, pd, sg, td, rfl, hH, hpd, hsv⟩ := hc
  exact c_X5_member xl D kA a V hs sl sv pd sg kt m td P HH HB LL hI hH hpd hsv x w A
theorem k4_allowed (xl : Launch) (D : va_G) (kA : Nat → ClassId) (ox os ob ot : Nat → Nat) (S : Sig) (u : va_W) (hI : InvS S) (hc : ClsR kA ox os ob ot S u) (c d y w : Int32) (A : Nat → Prop) : Met xl yX4_allowed wsX4_allowed { frames := 3, cells := 0, slots := 0, locals := 89 } (va_Pc [.ref (ox 0), .int c, .int d, .int y, .int w] (xPw D kA A u)) (xQi D A (fun r v => r = (opAllowed S c d y w).1 ∧ ClsR kA ox os ob ot (opAllowed S c d y w).2 v)) 0 0 A := by
  obtain ⟨V, m, P, kt, HH, HB, LL⟩ := S
  obtain ⟨sl, hs, h, tf, tz, f, g, tl, Q, rfl, hr, hpd, hQ⟩ := hc
  exact c_X4_allowed xl D kA ox os ob ot sl hs h tf tz f g V m kt tl P HH HB LL Q hI hr hpd hQ c d y w A
theorem k5_allowed (xl : Launch) (D : va_G) (kA : Nat → ClassId) (a : Nat → Nat) (S : Sig) (u : va_W) (hI : InvS S) (hc : ModR kA a S u) (c d y w : Int32) (A : Nat → Prop) : Met xl yX5_allowed wsX5_allowed { frames := 6, cells := 0, slots := 0, locals := 143 } (va_Pc [.ref (a 0), .int c, .int d, .int y, .int w] (xPw D kA A u)) (xQi D A (fun r v => r = (opAllowed S c d y w).1 ∧ ModR kA a (opAllowed S c d y w).2 v)) 0 0 A := by
  obtain ⟨V, m, P, kt, HH, HB, LL⟩ := S
  obtain ⟨hs, sl, sv, pd, sg, td, rfl, hH, hpd, hsv⟩ := hc
  exact c_X5_allowed xl D kA a V hs sl sv pd sg kt m td P HH HB LL hI hH hpd hsv c d y w A
theorem k4_why (xl : Launch) (D : va_G) (kA : Nat → ClassId) (ox os ob ot : Nat → Nat) (S : Sig) (u : va_W) (hI : InvS S) (hc : ClsR kA ox os ob ot S u) (c d y : Int32) (A : Nat → Prop) : Met xl yX4_why wsX4_why { frames := 3, cells := 0, slots := 0, locals := 70 } (va_Pc [.ref (ox 0), .int c, .int d, .int y] (xPw D kA A u)) (xQi D A (fun r v => r = (opWhy S c d y).1 ∧ ClsR kA ox os ob ot (opWhy S c d y).2 v)) 0 0 A := by
  obtain ⟨V, m, P, kt, HH, HB, LL⟩ := S
  obtain ⟨sl, hs, h, tf, tz, f, g, tl, Q, rfl, hr, hpd, hQ⟩ := hc
  exact c_X4_why xl D kA ox os ob ot sl hs h tf tz f g V m kt tl P HH HB LL Q hI hr hpd hQ c d y A
theorem k5_why (xl : Launch) (D : va_G) (kA : Nat → ClassId) (a : Nat → Nat) (S : Sig) (u : va_W) (hI : InvS S) (hc : ModR kA a S u) (c d y : Int32) (A : Nat → Prop) : Met xl yX5_why wsX5_why { frames := 7, cells := 0, slots := 0, locals := 170 } (va_Pc [.ref (a 0), .int c, .int d, .int y] (xPw D kA A u)) (xQi D A (fun r v => r = (opWhy S c d y).1 ∧ ModR kA a (opWhy S c d y).2 v)) 0 0 A := by
  obtain ⟨V, m, P, kt, HH, HB, LL⟩ := S
  obtain ⟨hs, sl, sv, pd, sg, td, rfl, hH, hpd, hsv⟩ := hc
  exact c_X5_why xl D kA a V hs sl sv pd sg kt m td P HH HB LL hI hH hpd hsv c d y A
theorem k4_count (xl : Launch) (D : va_G) (kA : Nat → ClassId) (ox os ob ot : Nat → Nat) (S : Sig) (u : va_W) (hI : InvS S) (hc : ClsR kA ox os ob ot S u) (w : Int32) (A : Nat → Prop) : Met xl yX4_count wsX4_count { frames := 7, cells := 0, slots := 0, locals := 157 } (va_Pc [.ref (ox 0), .int w] (xPw D kA A u)) (xQi D A (fun r v => r = (opCount S w).1 ∧ ClsR kA ox os ob ot (opCount S w).2 v)) 0 0 A := by
  obtain ⟨V, m, P, kt, HH, HB, LL⟩ := S
  obtain ⟨sl, hs, h, tf, tz, f, g, tl, Q, rfl, hr, hpd, hQ⟩ := hc
  exact c_X4_count xl D kA ox os ob ot sl hs h tf tz f g V m kt tl P HH HB LL Q hI hr hpd hQ w A
theorem k5_count (xl : Launch) (D : va_G) (kA : Nat → ClassId) (a : Nat → Nat) (S : Sig) (u : va_W) (hI : InvS S) (hc : ModR kA a S u) (w : Int32) (A : Nat → Prop) : Met xl yX5_count wsX5_count { frames := 8, cells := 0, slots := 0, locals := 189 } (va_Pc [.ref (a 0), .int w] (xPw D kA A u)) (xQi D A (fun r v => r = (opCount S w).1 ∧ ModR kA a (opCount S w).2 v)) 0 0 A := by
  obtain ⟨V, m, P, kt, HH, HB, LL⟩ := S
  obtain ⟨hs, sl, sv, pd, sg, td, rfl, hH, hpd, hsv⟩ := hc
  exact c_X5_count xl D kA a V hs sl sv pd sg kt m td P HH HB LL hI hH hpd hsv w A
theorem k4_leastRank (xl : Launch) (D : va_G) (kA : Nat → ClassId) (ox os ob ot : Nat → Nat) (S : Sig) (u : va_W) (hI : InvS S) (hc : ClsR kA ox os ob ot S u) (c d : Int32) (A : Nat → Prop) : Met xl yX4_leastRank wsX4_leastRank { frames := 4, cells := 0, slots := 0, locals := 90 } (va_Pc [.ref (ox 0), .int c, .int d] (xPw D kA A u)) (xQi D A (fun r v => r = (opLeast S c d).1 ∧ ClsR kA ox os ob ot (opLeast S c d).2 v)) 0 0 A := by
  obtain ⟨V, m, P, kt, HH, HB, LL⟩ := S
  obtain ⟨sl, hs, h, tf, tz, f, g, tl, Q, rfl, hr, hpd, hQ⟩ := hc
  exact c_X4_leastRank xl D kA ox os ob ot sl hs h tf tz f g V m kt tl P HH HB LL Q hI hr hpd hQ c d A
theorem k5_leastRank (xl : Launch) (D : va_G) (kA : Nat → ClassId) (a : Nat → Nat) (S : Sig) (u : va_W) (hI : InvS S) (hc : ModR kA a S u) (c d : Int32) (A : Nat → Prop) : Met xl yX5_leastRank wsX5_leastRank { frames := 6, cells := 0, slots := 0, locals := 143 } (va_Pc [.ref (a 0), .int c, .int d] (xPw D kA A u)) (xQi D A (fun r v => r = (opLeast S c d).1 ∧ ModR kA a (opLeast S c d).2 v)) 0 0 A := by
  obtain ⟨V, m, P, kt, HH, HB, LL⟩ := S
  obtain ⟨hs, sl, sv, pd, sg, td, rfl, hH, hpd, hsv⟩ := hc
  exact c_X5_leastRank xl D kA a V hs sl sv pd sg kt m td P HH HB LL hI hH hpd hsv c d A
theorem k4_ifStruck (xl : Launch) (D : va_G) (kA : Nat → ClassId) (ox os ob ot : Nat → Nat) (S : Sig) (u : va_W) (hI : InvS S) (hc : ClsR kA ox os ob ot S u) (x : Int32) (A : Nat → Prop) : Met xl yX4_ifStruck wsX4_ifStruck { frames := 5, cells := 0, slots := 0, locals := 112 } (va_Pc [.ref (ox 0), .int x] (xPw D kA A u)) (xQi D A (fun r v => r = (opIf S x).1 ∧ ClsR kA ox os ob ot (opIf S x).2 v)) 0 0 A := by
  obtain ⟨V, m, P, kt, HH, HB, LL⟩ := S
  obtain ⟨sl, hs, h, tf, tz, f, g, tl, Q, rfl, hr, hpd, hQ⟩ := hc
  exact c_X4_ifStruck xl D kA ox os ob ot sl hs h tf tz f g V m kt tl P HH HB LL Q hI hr hpd hQ x A
theorem k5_ifStruck (xl : Launch) (D : va_G) (kA : Nat → ClassId) (a : Nat → Nat) (S : Sig) (u : va_W) (hI : InvS S) (hc : ModR kA a S u) (x : Int32) (A : Nat → Prop) : Met xl yX5_ifStruck wsX5_ifStruck { frames := 7, cells := 0, slots := 0, locals := 166 } (va_Pc [.ref (a 0), .int x] (xPw D kA A u)) (xQi D A (fun r v => r = (opIf S x).1 ∧ ModR kA a (opIf S x).2 v)) 0 0 A := by
  obtain ⟨V, m, P, kt, HH, HB, LL⟩ := S
  obtain ⟨hs, sl, sv, pd, sg, td, rfl, hH, hpd, hsv⟩ := hc
  exact c_X5_ifStruck xl D kA a V hs sl sv pd sg kt m td P HH HB LL hI hH hpd hsv x A
theorem k4_worstBan (xl : Launch) (D : va_G) (kA : Nat → ClassId) (ox os ob ot : Nat → Nat) (S : Sig) (u : va_W) (hI : InvS S) (hc : ClsR kA ox os ob ot S u) (A : Nat → Prop) : Met xl yX4_worstBan wsX4_worstBan { frames := 5, cells := 0, slots := 0, locals := 112 } (va_Pc [.ref (ox 0)] (xPw D kA A u)) (xQi D A (fun r v => r = (opWorst S).1 ∧ ClsR kA ox os ob ot (opWorst S).2 v)) 0 0 A := by
  obtain ⟨V, m, P, kt, HH, HB, LL⟩ := S
  obtain ⟨sl, hs, h, tf, tz, f, g, tl, Q, rfl, hr, hpd, hQ⟩ := hc
  exact c_X4_worstBan xl D kA ox os ob ot sl hs h tf tz f g V m kt tl P HH HB LL Q hI hr hpd hQ A
theorem k5_worstBan (xl : Launch) (D : va_G) (kA : Nat → ClassId) (a : Nat → Nat) (S : Sig) (u : va_W) (hI : InvS S) (hc : ModR kA a S u) (A : Nat → Prop) : Met xl yX5_worstBan wsX5_worstBan { frames := 6, cells := 0, slots := 0, locals := 146 } (va_Pc [.ref (a 0)] (xPw D kA A u)) (xQi D A (fun r v => r = (opWorst S).1 ∧ ModR kA a (opWorst S).2 v)) 0 0 A := by
  obtain ⟨V, m, P, kt, HH, HB, LL⟩ := S
  obtain ⟨hs, sl, sv, pd, sg, td, rfl, hH, hpd, hsv⟩ := hc
  exact c_X5_worstBan xl D kA a V hs sl sv pd sg kt m td P HH HB LL hI hH hpd hsv A
theorem k4_bestWaiver (xl : Launch) (D : va_G) (kA : Nat → ClassId) (ox os ob ot : Nat → Nat) (S : Sig) (u : va_W) (hI : InvS S) (hc : ClsR kA ox os ob ot S u) (z : Int32) (A : Nat → Prop) : Met xl yX4_bestWaiver wsX4_bestWaiver { frames := 5, cells := 0, slots := 0, locals := 113 } (va_Pc [.ref (ox 0), .int z] (xPw D kA A u)) (xQi D A (fun r v => r = (opBest S z).1 ∧ ClsR kA ox os ob ot (opBest S z).2 v)) 0 0 A := by
  obtain ⟨V, m, P, kt, HH, HB, LL⟩ := S
  obtain ⟨sl, hs, h, tf, tz, f, g, tl, Q, rfl, hr, hpd, hQ⟩ := hc
  exact c_X4_bestWaiver xl D kA ox os ob ot sl hs h tf tz f g V m kt tl P HH HB LL Q hI hr hpd hQ z A
theorem k5_bestWaiver (xl : Launch) (D : va_G) (kA : Nat → ClassId) (a : Nat → Nat) (S : Sig) (u : va_W) (hI : InvS S) (hc : ModR kA a S u) (z : Int32) (A : Nat → Prop) : Met xl yX5_bestWaiver wsX5_bestWaiver { frames := 6, cells := 0, slots := 0, locals := 146 } (va_Pc [.ref (a 0), .int z] (xPw D kA A u)) (xQi D A (fun r v => r = (opBest S z).1 ∧ ModR kA a (opBest S z).2 v)) 0 0 A := by
  obtain ⟨V, m, P, kt, HH, HB, LL⟩ := S
  obtain ⟨hs, sl, sv, pd, sg, td, rfl, hH, hpd, hsv⟩ := hc
  exact c_X5_bestWaiver xl D kA a V hs sl sv pd sg kt m td P HH HB LL hI hH hpd hsv z A
theorem k4_put (xl : Launch) (D : va_G) (kA : Nat → ClassId) (ox os ob ot : Nat → Nat) (S : Sig) (u : va_W) (hI : InvS S) (hc : ClsR kA ox os ob ot S u) (X : Nat) (hX : X < 2 ^ 64) (A : Nat → Prop) : Met xl yX4_put wsX4_put { frames := 2, cells := 0, slots := 0, locals := 46 } (va_Pc [.ref (ox 0), .long (lN X)] (xPw D kA A u)) (xQi D A (fun r v => r = (opPut S X).1 ∧ ClsR kA ox os ob ot (opPut S X).2 v)) 0 0 A := by
  obtain ⟨V, m, P, kt, HH, HB, LL⟩ := S
  obtain ⟨sl, hs, h, tf, tz, f, g, tl, Q, rfl, hr, hpd, hQ⟩ := hc
  exact c_X4_put xl D kA ox os ob ot sl hs h tf tz f g V m kt tl P HH HB LL Q hI hr hpd hQ X hX A
theorem k5_put (xl : Launch) (D : va_G) (kA : Nat → ClassId) (a : Nat → Nat) (S : Sig) (u : va_W) (hI : InvS S) (hc : ModR kA a S u) (X : Nat) (hX : X < 2 ^ 64) (A : Nat → Prop) : Met xl yX5_put wsX5_put { frames := 1, cells := 0, slots := 0, locals := 22 } (va_Pc [.ref (a 0), .long (lN X)] (xPw D kA A u)) (xQi D A (fun r v => r = (opPut S X).1 ∧ ModR kA a (opPut S X).2 v)) 0 0 A := by
  obtain ⟨V, m, P, kt, HH, HB, LL⟩ := S
  obtain ⟨hs, sl, sv, pd, sg, td, rfl, hH, hpd, hsv⟩ := hc
  exact c_X5_put xl D kA a V hs sl sv pd sg kt m td P HH HB LL hI hH hpd hsv X hX A
theorem k4_wipe (xl : Launch) (D : va_G) (kA : Nat → ClassId) (ox os ob ot : Nat → Nat) (S : Sig) (u : va_W) (hI : InvS S) (hc : ClsR kA ox os ob ot S u) (A : Nat → Prop) : Met xl yX4_wipe wsX4_wipe { frames := 1, cells := 0, slots := 0, locals := 20 } (va_Pc [.ref (ox 0)] (xPw D kA A u)) (xQi D A (fun r v => r = (opWipe S).1 ∧ ClsR kA ox os ob ot (opWipe S).2 v)) 0 0 A := by
  obtain ⟨V, m, P, kt, HH, HB, LL⟩ := S
  obtain ⟨sl, hs, h, tf, tz, f, g, tl, Q, rfl, hr, hpd, hQ⟩ := hc
  exact c_X4_wipe xl D kA ox os ob ot sl hs h tf tz f g V m kt tl P HH HB LL Q hI hr hpd hQ A
theorem k5_wipe (xl : Launch) (D : va_G) (kA : Nat → ClassId) (a : Nat → Nat) (S : Sig) (u : va_W) (hI : InvS S) (hc : ModR kA a S u) (A : Nat → Prop) : Met xl yX5_wipe wsX5_wipe { frames := 0, cells := 0, slots := 0, locals := 0 } (va_Pc [.ref (a 0)] (xPw D kA A u)) (xQi D A (fun r v => r = (opWipe S).1 ∧ ModR kA a (opWipe S).2 v)) 0 0 A := by
  obtain ⟨V, m, P, kt, HH, HB, LL⟩ := S
  obtain ⟨hs, sl, sv, pd, sg, td, rfl, hH, hpd, hsv⟩ := hc
  exact c_X5_wipe xl D kA a V hs sl sv pd sg kt m td P HH HB LL hI hH hpd hsv A
theorem k4_fault (xl : Launch) (D : va_G) (kA : Nat → ClassId) (ox os ob ot : Nat → Nat) (S : Sig) (u : va_W) (hI : InvS S) (hc : ClsR kA ox os ob ot S u) (A : Nat → Prop) : Met xl yX4_fault wsX4_fault { frames := 3, cells := 0, slots := 0, locals := 67 } (va_Pc [.ref (ox 0)] (xPw D kA A u)) (xQi D A (fun r v => r = (opFault S).1 ∧ ClsR kA ox os ob ot (opFault S).2 v)) 0 0 A := by
  obtain ⟨V, m, P, kt, HH, HB, LL⟩ := S
  obtain ⟨sl, hs, h, tf, tz, f, g, tl, Q, rfl, hr, hpd, hQ⟩ := hc
  exact c_X4_fault xl D kA ox os ob ot sl hs h tf tz f g V m kt tl P HH HB LL Q hI hr hpd hQ A
theorem k5_fault (xl : Launch) (D : va_G) (kA : Nat → ClassId) (a : Nat → Nat) (S : Sig) (u : va_W) (hI : InvS S) (hc : ModR kA a S u) (A : Nat → Prop) : Met xl yX5_fault wsX5_fault { frames := 3, cells := 0, slots := 0, locals := 67 } (va_Pc [.ref (a 0)] (xPw D kA A u)) (xQi D A (fun r v => r = (opFault S).1 ∧ ModR kA a (opFault S).2 v)) 0 0 A := by
  obtain ⟨V, m, P, kt, HH, HB, LL⟩ := S
  obtain ⟨hs, sl, sv, pd, sg, td, rfl, hH, hpd, hsv⟩ := hc
  exact c_X5_fault xl D kA a V hs sl sv pd sg kt m td P HH HB LL hI hH hpd hsv A
theorem k4_undo (xl : Launch) (D : va_G) (kA : Nat → ClassId) (ox os ob ot : Nat → Nat) (S : Sig) (u : va_W) (hI : InvS S) (hc : ClsR kA ox os ob ot S u) (A : Nat → Prop) : Met xl yX4_undo wsX4_undo { frames := 4, cells := 0, slots := 0, locals := 103 } (va_Pc [.ref (ox 0)] (xPw D kA A u)) (xQi D A (fun r v => r = (opUndo S).1 ∧ ClsR kA ox os ob ot (opUndo S).2 v)) 0 0 A := by
  obtain ⟨V, m, P, kt, HH, HB, LL⟩ := S
  obtain ⟨sl, hs, h, tf, tz, f, g, tl, Q, rfl, hr, hpd, hQ⟩ := hc
  exact c_X4_undo xl D kA ox os ob ot sl hs h tf tz f g V m kt tl P HH HB LL Q hI hr hpd hQ A
theorem k5_undo (xl : Launch) (D : va_G) (kA : Nat → ClassId) (a : Nat → Nat) (S : Sig) (u : va_W) (hI : InvS S) (hc : ModR kA a S u) (A : Nat → Prop) : Met xl yX5_undo wsX5_undo { frames := 0, cells := 0, slots := 0, locals := 0 } (va_Pc [.ref (a 0)] (xPw D kA A u)) (xQi D A (fun r v => r = (opUndo S).1 ∧ ModR kA a (opUndo S).2 v)) 0 0 A := by
  obtain ⟨V, m, P, kt, HH, HB, LL⟩ := S
  obtain ⟨hs, sl, sv, pd, sg, td, rfl, hH, hpd, hsv⟩ := hc
  exact c_X5_undo xl D kA a V hs sl sv pd sg kt m td P HH HB LL hI hH hpd hsv A
theorem k4_save (xl : Launch) (D : va_G) (kA : Nat → ClassId) (ox os ob ot : Nat → Nat) (S : Sig) (u : va_W) (hI : InvS S) (hc : ClsR kA ox os ob ot S u) (x : Int32) (A : Nat → Prop) : Met xl yX4_save wsX4_save { frames := 5, cells := 14, slots := 212, locals := 125 } (va_Pc [.ref (ox 0), .int x] (xPw D kA A u)) (xQi D A (fun r v => r = (opSave S x).1 ∧ ClsR kA ox os ob ot (opSave S x).2 v)) 14 212 A := by
  obtain ⟨V, m, P, kt, HH, HB, LL⟩ := S
  obtain ⟨sl, hs, h, tf, tz, f, g, tl, Q, rfl, hr, hpd, hQ⟩ := hc
  exact c_X4_save xl D kA ox os ob ot sl hs h tf tz f g V m kt tl P HH HB LL Q hI hr hpd hQ x A
theorem k5_save (xl : Launch) (D : va_G) (kA : Nat → ClassId) (a : Nat → Nat) (S : Sig) (u : va_W) (hI : InvS S) (hc : ModR kA a S u) (x : Int32) (A : Nat → Prop) : Met xl yX5_save wsX5_save { frames := 1, cells := 0, slots := 0, locals := 22 } (va_Pc [.ref (a 0), .int x] (xPw D kA A u)) (xQi D A (fun r v => r = (opSave S x).1 ∧ ModR kA a (opSave S x).2 v)) 0 0 A := by
  obtain ⟨V, m, P, kt, HH, HB, LL⟩ := S
  obtain ⟨hs, sl, sv, pd, sg, td, rfl, hH, hpd, hsv⟩ := hc
  exact c_X5_save xl D kA a V hs sl sv pd sg kt m td P HH HB LL hI hH hpd hsv x A
theorem k4_restore (xl : Launch) (D : va_G) (kA : Nat → ClassId) (ox os ob ot : Nat → Nat) (S : Sig) (u : va_W) (hI : InvS S) (hc : ClsR kA ox os ob ot S u) (x : Int32) (A : Nat → Prop) : Met xl yX4_restore wsX4_restore { frames := 6, cells := 14, slots := 212, locals := 145 } (va_Pc [.ref (ox 0), .int x] (xPw D kA A u)) (xQi D A (fun r v => r = (opRestore S x).1 ∧ ClsR kA ox os ob ot (opRestore S x).2 v)) 14 212 A := by
  obtain ⟨V, m, P, kt, HH, HB, LL⟩ := S
  obtain ⟨sl, hs, h, tf, tz, f, g, tl, Q, rfl, hr, hpd, hQ⟩ := hc
  exact c_X4_restore xl D kA ox os ob ot sl hs h tf tz f g V m kt tl P HH HB LL Q hI hr hpd hQ x A
theorem k5_restore (xl : Launch) (D : va_G) (kA : Nat → ClassId) (a : Nat → Nat) (S : Sig) (u : va_W) (hI : InvS S) (hc : ModR kA a S u) (x : Int32) (A : Nat → Prop) : Met xl yX5_restore wsX5_restore { frames := 1, cells := 0, slots := 0, locals := 22 } (va_Pc [.ref (a 0), .int x] (xPw D kA A u)) (xQi D A (fun r v => r = (opRestore S x).1 ∧ ModR kA a (opRestore S x).2 v)) 0 0 A := by
  obtain ⟨V, m, P, kt, HH, HB, LL⟩ := S
  obtain ⟨hs, sl, sv, pd, sg, td, rfl, hH, hpd, hsv⟩ := hc
  exact c_X5_restore xl D kA a V hs sl sv pd sg kt m td P HH HB LL hI hH hpd hsv x A
theorem cls_at {kA : Nat → ClassId} {ox os ob ot : Nat → Nat} {S : Sig} {u : va_W} (h : ClsR kA ox os ob ot S u) : ∃ fs, u[0]? = some (ox 0, .inr (4, fs)) := by
  obtain ⟨V, m, P, kt, HH, HB, LL⟩ := S
  obtain ⟨sl, hs, h, tf, tz, f, g, tl, Q, rfl, _⟩ := h
  exact ⟨_, rfl⟩
theorem mod_at {kA : Nat → ClassId} {a : Nat → Nat} {S : Sig} {u : va_W} (h : ModR kA a S u) : ∃ fs, u[0]? = some (a 0, .inr (5, fs)) := by
  obtain ⟨V, m, P, kt, HH, HB, LL⟩ := S
  obtain ⟨hs, sl, sv, pd, sg, td, rfl, _⟩ := h
  exact ⟨_, rfl⟩
theorem va_Da {A : Nat → Prop} {u1 u2 : va_W} {n : Nat} (h : va_D A (u1 ++ u2)) : va_D (va_A u1 n) u1 := va_D0 (List.pairwise_append.mp (va_D_iff.mp h).1).1
theorem va_Db {A : Nat → Prop} {u1 u2 : va_W} {n : Nat} (h : va_D A (u1 ++ u2)) : va_D (va_A u2 n) u2 := va_D0 (List.pairwise_append.mp (va_D_iff.mp h).1).2.1
def put_arg (xs : Nat → Int32) (i : Nat) : Int64 := (((xs (i + 1)).toInt64 <<< ((nI 32).toInt64 &&& 63)) ||| ((xs (i + 2)).toInt64 &&& 4294967295))
theorem law_const : Cond.constantLong RL 95 (4294967295) ∈ wsL_law := List.mem_of_getElem? (i := 6) rfl
theorem i_rule {S : Sig} {x w : Int32} (h : InvS S) : InvS (opRule S x w).2 := by
  obtain ⟨V, m, P, kt, H, B, L⟩ := S
  exact h
theorem i_member {S : Sig} {x w : Int32} (h : InvS S) : InvS (opMember S x w).2 := by
  obtain ⟨V, m, P, kt, H, B, L⟩ := S
  exact h
theorem i_allowed {S : Sig} {c d y w : Int32} (h : InvS S) : InvS (opAllowed S c d y w).2 := by
  obtain ⟨V, m, P, kt, H, B, L⟩ := S
  exact h
theorem i_why {S : Sig} {c d y : Int32} (h : InvS S) : InvS (opWhy S c d y).2 := by
  obtain ⟨V, m, P, kt, H, B, L⟩ := S
  exact h
theorem i_count {S : Sig} {w : Int32} (h : InvS S) : InvS (opCount S w).2 := by
  obtain ⟨V, m, P, kt, H, B, L⟩ := S
  exact h
theorem i_leastRank {S : Sig} {c d : Int32} (h : InvS S) : InvS (opLeast S c d).2 := by
  obtain ⟨V, m, P, kt, H, B, L⟩ := S
  exact h
theorem i_ifStruck {S : Sig} {x : Int32} (h : InvS S) : InvS (opIf S x).2 := by
  obtain ⟨V, m, P, kt, H, B, L⟩ := S
  exact h
theorem i_worstBan {S : Sig} (h : InvS S) : InvS (opWorst S).2 := by
  obtain ⟨V, m, P, kt, H, B, L⟩ := S
  exact h
theorem i_bestWaiver {S : Sig} {z : Int32} (h : InvS S) : InvS (opBest S z).2 := by
  obtain ⟨V, m, P, kt, H, B, L⟩ := S
  exact h
theorem i_fault {S : Sig} (h : InvS S) : InvS (opFault S).2 := by
  obtain ⟨V, m, P, kt, H, B, L⟩ := S
  exact h
set_option maxHeartbeats 4000000 in
set_option maxRecDepth 100000 in
theorem law_add {p : Program} {l : Launch} {e : Env} {s : State} {m : MethodId} {below : List Frame} {meth : Method} {c : Code} {H : Heap} {locs : List Loc} {cells slots : Nat} {Q : State → Prop} {ls : Array Slot} {D : va_G} {kA : Nat → ClassId} {b L i : Nat} {xs : Nat → Int32} {ox os ob ot a : Nat → Nat} {S : Sig} {u1 u2 : va_W} (C : CallFix p m c cL_law 4 s #[Value.ref b] wsL_law RL) (hN : KN D kA s) (hX : va_X b L xs s s.heap) (hbl : b < s.heap.size) (hi : i + 5 < L) (hL : L ≤ 3072) (hI : InvS S) (h1 : ClsR kA ox os ob ot S u1) (h2 : ModR kA a S u2) (hP : va_P D vwCl (u1 ++ u2) H) (hD : va_D (fun q : Nat => s.heap.size ≤ q) (u1 ++ u2)) (hS : va_S (fun q : Nat => s.heap.size ≤ q) s.heap H locs) (hl : lv_has ls 4 [(3, .int (nI i)), (0, .ref b), (1, .ref (ox 0)), (2, .ref (a 0))]) (hcl : cells + 14 ≤ 600000) (hsl : slots + 212 ≤ 7302250) (kk : ∀ (S2 : Sig) (v1 v2 : va_W) (H1 : Heap) (locs1 : List Loc), InvS S2 → ClsR kA ox os ob ot S2 v1 → ModR kA a S2 v2 → va_P D vwCl (v1 ++ v2) H1 → va_D (fun q : Nat => s.heap.size ≤ q) (v1 ++ v2) → va_S (fun q : Nat => s.heap.size ≤ q) s.heap H1 locs1 → W p l e room_1 s m #[Value.ref b] below meth c H1 locs1 (cells + 14) (slots + 212) Q (F0 m 863 ls [])) : W p l e room_1 s m #[Value.ref b] below meth c H locs cells slots Q (F0 m 148 ls []) := by
  obtain ⟨hx, hb, hml, hown, hts⟩ := id C
  have hA : ∀ q : Nat, s.heap.size ≤ q → (fun q : Nat => s.heap.size ≤ q) q := fun _ h => h
  have hbA : ¬ (fun q : Nat => s.heap.size ≤ q) b := Nat.not_le.mpr hbl
  obtain ⟨f1, hat1⟩ := cls_at h1
  obtain ⟨f2, hat2⟩ := mod_at h2
  refine lv_aload_n hx hb dL_law_148 rfl (lv_at hl 2 rfl) ?_
  refine lv_aload_n hx hb dL_law_149 rfl (lv_at hl 1 rfl) ?_
  refine lv_iload_n hx hb dL_law_150 rfl (lv_at hl 0 rfl) ?_
  refine lv_iconst (v := nI 1) hx hb dL_law_151 (by decide) ?_
  refine xIadd C dL_law_152 ?_
  refine xSld C hX hbl hbA hS (show i + 1 < L by omega) (by omega) dL_law_153 ?_
  refine lv_aload_n hx hb dL_law_154 rfl (lv_at hl 1 rfl) ?_
  refine lv_iload_n hx hb dL_law_155 rfl (lv_at hl 0 rfl) ?_
  refine lv_iconst (v := nI 2) hx hb dL_law_156 (by decide) ?_
  refine xIadd C dL_law_157 ?_
  refine xSld C hX hbl hbA hS (show i + 2 < L by omega) (by omega) dL_law_158 ?_
  refine lv_aload_n hx hb dL_law_159 rfl (lv_at hl 1 rfl) ?_
  refine lv_iload_n hx hb dL_law_160 rfl (lv_at hl 0 rfl) ?_
  refine lv_iconst (v := nI 3) hx hb dL_law_161 (by decide) ?_
  refine xIadd C dL_law_162 ?_
  refine xSld C hX hbl hbA hS (show i + 3 < L by omega) (by omega) dL_law_163 ?_
  refine lv_aload_n hx hb dL_law_164 rfl (lv_at hl 1 rfl) ?_
  refine lv_iload_n hx hb dL_law_165 rfl (lv_at hl 0 rfl) ?_
  refine lv_iconst (v := nI 4) hx hb dL_law_166 (by decide) ?_
  refine xIadd C dL_law_167 ?_
  refine xSld C hX hbl hbA hS (show i + 4 < L by omega) (by omega) dL_law_168 ?_
  refine lv_aload_n hx hb dL_law_169 rfl (lv_at hl 1 rfl) ?_
  refine lv_iload_n hx hb dL_law_170 rfl (lv_at hl 0 rfl) ?_
  refine lv_iconst (v := nI 5) hx hb dL_law_171 (by decide) ?_
  refine xIadd C dL_law_172 ?_
  refine xSld C hX hbl hbA hS (show i + 5 < L by omega) (by omega) dL_law_173 ?_
  refine xLaw1 hP hD hS hA (va_runV (As := [.int (xs (i + 1)), .int (xs (i + 2)), .int (xs (i + 3)), .int (xs (i + 4)), .int (xs (i + 5))]) (rest := []) C (k4_add l D kA ox os ob ot S u1 hI h1 (xs (i + 1)) (xs (i + 2)) (xs (i + 3)) (xs (i + 4)) (xs (i + 5)) _) (cwV 5 hts gL_law_X4_add rfl rfl rfl (by decide +kernel) ⟨Nat.le_of_ble_eq_true rfl, Nat.le_of_ble_eq_true rfl⟩) (xPreVw (q0 := 0) hN (va_P1 hP) (va_Da hD) (fun _ h => Or.inr h) rfl hat1 rfl) rfl rfl hl.1 rfl (lv_room (Nat.le_of_ble_eq_true rfl)) dL_law_174 ⟨hcl, hsl⟩) (fun r1 v1 H locs hq1 hP hD hS => ?_)
  obtain ⟨e1, g1⟩ := hq1
  refine lv_aload_n hx hb dL_law_177 rfl (lv_at hl 3 rfl) ?_
  refine lv_aload_n hx hb dL_law_178 rfl (lv_at hl 1 rfl) ?_
  refine lv_iload_n hx hb dL_law_179 rfl (lv_at hl 0 rfl) ?_
  refine lv_iconst (v := nI 1) hx hb dL_law_180 (by decide) ?_
  refine xIadd C dL_law_181 ?_
  refine xSld C hX hbl hbA hS (show i + 1 < L by omega) (by omega) dL_law_182 ?_
  refine lv_aload_n hx hb dL_law_183 rfl (lv_at hl 1 rfl) ?_
  refine lv_iload_n hx hb dL_law_184 rfl (lv_at hl 0 rfl) ?_
  refine lv_iconst (v := nI 2) hx hb dL_law_185 (by decide) ?_
  refine xIadd C dL_law_186 ?_
  refine xSld C hX hbl hbA hS (show i + 2 < L by omega) (by omega) dL_law_187 ?_
  refine lv_aload_n hx hb dL_law_188 rfl (lv_at hl 1 rfl) ?_
  refine lv_iload_n hx hb dL_law_189 rfl (lv_at hl 0 rfl) ?_
  refine lv_iconst (v := nI 3) hx hb dL_law_190 (by decide) ?_
  refine xIadd C dL_law_191 ?_
  refine xSld C hX hbl hbA hS (show i + 3 < L by omega) (by omega) dL_law_192 ?_
  refine lv_aload_n hx hb dL_law_193 rfl (lv_at hl 1 rfl) ?_
  refine lv_iload_n hx hb dL_law_194 rfl (lv_at hl 0 rfl) ?_
  refine lv_iconst (v := nI 4) hx hb dL_law_195 (by decide) ?_
  refine xIadd C dL_law_196 ?_
  refine xSld C hX hbl hbA hS (show i + 4 < L by omega) (by omega) dL_law_197 ?_
  refine lv_aload_n hx hb dL_law_198 rfl (lv_at hl 1 rfl) ?_
  refine lv_iload_n hx hb dL_law_199 rfl (lv_at hl 0 rfl) ?_
  refine lv_iconst (v := nI 5) hx hb dL_law_200 (by decide) ?_
  refine xIadd C dL_law_201 ?_
  refine xSld C hX hbl hbA hS (show i + 5 < L by omega) (by omega) dL_law_202 ?_
  refine xLaw2 hP hD hS hA (va_runV (As := [.int (xs (i + 1)), .int (xs (i + 2)), .int (xs (i + 3)), .int (xs (i + 4)), .int (xs (i + 5))]) (rest := [.int r1]) C (k5_add l D kA a S u2 hI h2 (xs (i + 1)) (xs (i + 2)) (xs (i + 3)) (xs (i + 4)) (xs (i + 5)) _) (cwV 5 hts gL_law_X5_add rfl rfl rfl (by decide +kernel) ⟨Nat.le_of_ble_eq_true rfl, Nat.le_of_ble_eq_true rfl⟩) (xPreVw (q0 := 0) hN (va_P2 hP) (va_Db hD) (fun _ h => Or.inr h) rfl hat2 rfl) rfl rfl hl.1 rfl (lv_room (Nat.le_of_ble_eq_true rfl)) dL_law_203 ⟨hcl, hsl⟩) (fun r2 v2 H locs hq2 hP hD hS => ?_)
  obtain ⟨e2, g2⟩ := hq2
  refine lv_icmp_eq (tgt := 863) hx hb dL_law_206 (by decide) (fun _ => ?_) (fun h9 => absurd (e1.trans e2.symm) h9)
  refine W.widen (k := cells + 14) (n := slots + 212) (by omega) (by omega) ?_
  exact kk _ _ _ _ _ (i_add hI) g1 g2 hP hD hS
set_option maxHeartbeats 4000000 in
set_option maxRecDepth 100000 in
theorem law_strike {p : Program} {l : Launch} {e : Env} {s : State} {m : MethodId} {below : List Frame} {meth : Method} {c : Code} {H : Heap} {locs : List Loc} {cells slots : Nat} {Q : State → Prop} {ls : Array Slot} {D : va_G} {kA : Nat → ClassId} {b L i : Nat} {xs : Nat → Int32} {ox os ob ot a : Nat → Nat} {S : Sig} {u1 u2 : va_W} (C : CallFix p m c cL_law 4 s #[Value.ref b] wsL_law RL) (hN : KN D kA s) (hX : va_X b L xs s s.heap) (hbl : b < s.heap.size) (hi : i + 5 < L) (hL : L ≤ 3072) (hI : InvS S) (h1 : ClsR kA ox os ob ot S u1) (h2 : ModR kA a S u2) (hP : va_P D vwCl (u1 ++ u2) H) (hD : va_D (fun q : Nat => s.heap.size ≤ q) (u1 ++ u2)) (hS : va_S (fun q : Nat => s.heap.size ≤ q) s.heap H locs) (hl : lv_has ls 4 [(3, .int (nI i)), (0, .ref b), (1, .ref (ox 0)), (2, .ref (a 0))]) (hcl : cells + 14 ≤ 600000) (hsl : slots + 212 ≤ 7302250) (kk : ∀ (S2 : Sig) (v1 v2 : va_W) (H1 : Heap) (locs1 : List Loc), InvS S2 → ClsR kA ox os ob ot S2 v1 → ModR kA a S2 v2 → va_P D vwCl (v1 ++ v2) H1 → va_D (fun q : Nat => s.heap.size ≤ q) (v1 ++ v2) → va_S (fun q : Nat => s.heap.size ≤ q) s.heap H1 locs1 → W p l e room_1 s m #[Value.ref b] below meth c H1 locs1 (cells + 14) (slots + 212) Q (F0 m 863 ls [])) : W p l e room_1 s m #[Value.ref b] below meth c H locs cells slots Q (F0 m 211 ls []) := by
  obtain ⟨hx, hb, hml, hown, hts⟩ := id C
  have hA : ∀ q : Nat, s.heap.size ≤ q → (fun q : Nat => s.heap.size ≤ q) q := fun _ h => h
  have hbA : ¬ (fun q : Nat => s.heap.size ≤ q) b := Nat.not_le.mpr hbl
  obtain ⟨f1, hat1⟩ := cls_at h1
  obtain ⟨f2, hat2⟩ := mod_at h2
  refine lv_aload_n hx hb dL_law_211 rfl (lv_at hl 2 rfl) ?_
  refine lv_aload_n hx hb dL_law_212 rfl (lv_at hl 1 rfl) ?_
  refine lv_iload_n hx hb dL_law_213 rfl (lv_at hl 0 rfl) ?_
  refine lv_iconst (v := nI 1) hx hb dL_law_214 (by decide) ?_
  refine xIadd C dL_law_215 ?_
  refine xSld C hX hbl hbA hS (show i + 1 < L by omega) (by omega) dL_law_216 ?_
  refine xLaw1 hP hD hS hA (va_runV (As := [.int (xs (i + 1))]) (rest := []) C (k4_strike l D kA ox os ob ot S u1 hI h1 (xs (i + 1)) _) (cwV 1 hts gL_law_X4_strike rfl rfl rfl (by decide +kernel) ⟨Nat.le_of_ble_eq_true rfl, Nat.le_of_ble_eq_true rfl⟩) (xPreVw (q0 := 0) hN (va_P1 hP) (va_Da hD) (fun _ h => Or.inr h) rfl hat1 rfl) rfl rfl hl.1 rfl (lv_room (Nat.le_of_ble_eq_true rfl)) dL_law_217 ⟨hcl, hsl⟩) (fun r1 v1 H locs hq1 hP hD hS => ?_)
  obtain ⟨e1, g1⟩ := hq1
  refine lv_aload_n hx hb dL_law_220 rfl (lv_at hl 3 rfl) ?_
  refine lv_aload_n hx hb dL_law_221 rfl (lv_at hl 1 rfl) ?_
  refine lv_iload_n hx hb dL_law_222 rfl (lv_at hl 0 rfl) ?_
  refine lv_iconst (v := nI 1) hx hb dL_law_223 (by decide) ?_
  refine xIadd C dL_law_224 ?_
  refine xSld C hX hbl hbA hS (show i + 1 < L by omega) (by omega) dL_law_225 ?_
  refine xLaw2 hP hD hS hA (va_runV (As := [.int (xs (i + 1))]) (rest := [.int r1]) C (k5_strike l D kA a S u2 hI h2 (xs (i + 1)) _) (cwV 1 hts gL_law_X5_strike rfl rfl rfl (by decide +kernel) ⟨Nat.le_of_ble_eq_true rfl, Nat.le_of_ble_eq_true rfl⟩) (xPreVw (q0 := 0) hN (va_P2 hP) (va_Db hD) (fun _ h => Or.inr h) rfl hat2 rfl) rfl rfl hl.1 rfl (lv_room (Nat.le_of_ble_eq_true rfl)) dL_law_226 ⟨hcl, hsl⟩) (fun r2 v2 H locs hq2 hP hD hS => ?_)
  obtain ⟨e2, g2⟩ := hq2
  refine lv_icmp_eq (tgt := 863) hx hb dL_law_229 (by decide) (fun _ => ?_) (fun h9 => absurd (e1.trans e2.symm) h9)
  refine W.widen (k := cells + 14) (n := slots + 212) (by omega) (by omega) ?_
  exact kk _ _ _ _ _ (i_strike hI) g1 g2 hP hD hS
set_option maxHeartbeats 4000000 in
set_option maxRecDepth 100000 in
theorem law_seal {p : Program} {l : Launch} {e : Env} {s : State} {m : MethodId} {below : List Frame} {meth : Method} {c : Code} {H : Heap} {locs : List Loc} {cells slots : Nat} {Q : State → Prop} {ls : Array Slot} {D : va_G} {kA : Nat → ClassId} {b L i : Nat} {xs : Nat → Int32} {ox os ob ot a : Nat → Nat} {S : Sig} {u1 u2 : va_W} (C : CallFix p m c cL_law 4 s #[Value.ref b] wsL_law RL) (hN : KN D kA s) (hX : va_X b L xs s s.heap) (hbl : b < s.heap.size) (hi : i + 5 < L) (hL : L ≤ 3072) (hI : InvS S) (h1 : ClsR kA ox os ob ot S u1) (h2 : ModR kA a S u2) (hP : va_P D vwCl (u1 ++ u2) H) (hD : va_D (fun q : Nat => s.heap.size ≤ q) (u1 ++ u2)) (hS : va_S (fun q : Nat => s.heap.size ≤ q) s.heap H locs) (hl : lv_has ls 4 [(3, .int (nI i)), (0, .ref b), (1, .ref (ox 0)), (2, .ref (a 0))]) (hcl : cells + 14 ≤ 600000) (hsl : slots + 212 ≤ 7302250) (kk : ∀ (S2 : Sig) (v1 v2 : va_W) (H1 : Heap) (locs1 : List Loc), InvS S2 → ClsR kA ox os ob ot S2 v1 → ModR kA a S2 v2 → va_P D vwCl (v1 ++ v2) H1 → va_D (fun q : Nat => s.heap.size ≤ q) (v1 ++ v2) → va_S (fun q : Nat => s.heap.size ≤ q) s.heap H1 locs1 → W p l e room_1 s m #[Value.ref b] below meth c H1 locs1 (cells + 14) (slots + 212) Q (F0 m 863 ls [])) : W p l e room_1 s m #[Value.ref b] below meth c H locs cells slots Q (F0 m 234 ls []) := by
  obtain ⟨hx, hb, hml, hown, hts⟩ := id C
  have hA : ∀ q : Nat, s.heap.size ≤ q → (fun q : Nat => s.heap.size ≤ q) q := fun _ h => h
  have hbA : ¬ (fun q : Nat => s.heap.size ≤ q) b := Nat.not_le.mpr hbl
  obtain ⟨f1, hat1⟩ := cls_at h1
  obtain ⟨f2, hat2⟩ := mod_at h2
  refine lv_aload_n hx hb dL_law_234 rfl (lv_at hl 2 rfl) ?_
  refine lv_aload_n hx hb dL_law_235 rfl (lv_at hl 1 rfl) ?_
  refine lv_iload_n hx hb dL_law_236 rfl (lv_at hl 0 rfl) ?_
  refine lv_iconst (v := nI 1) hx hb dL_law_237 (by decide) ?_
  refine xIadd C dL_law_238 ?_
  refine xSld C hX hbl hbA hS (show i + 1 < L by omega) (by omega) dL_law_239 ?_
  refine lv_aload_n hx hb dL_law_240 rfl (lv_at hl 1 rfl) ?_
  refine lv_iload_n hx hb dL_law_241 rfl (lv_at hl 0 rfl) ?_
  refine lv_iconst (v := nI 2) hx hb dL_law_242 (by decide) ?_
  refine xIadd C dL_law_243 ?_
  refine xSld C hX hbl hbA hS (show i + 2 < L by omega) (by omega) dL_law_244 ?_
  refine xLaw1 hP hD hS hA (va_runV (As := [.int (xs (i + 1)), .int (xs (i + 2))]) (rest := []) C (k4_seal l D kA ox os ob ot S u1 hI h1 (xs (i + 1)) (xs (i + 2)) _) (cwV 2 hts gL_law_X4_seal rfl rfl rfl (by decide +kernel) ⟨Nat.le_of_ble_eq_true rfl, Nat.le_of_ble_eq_true rfl⟩) (xPreVw (q0 := 0) hN (va_P1 hP) (va_Da hD) (fun _ h => Or.inr h) rfl hat1 rfl) rfl rfl hl.1 rfl (lv_room (Nat.le_of_ble_eq_true rfl)) dL_law_245 ⟨hcl, hsl⟩) (fun r1 v1 H locs hq1 hP hD hS => ?_)
  obtain ⟨e1, g1⟩ := hq1
  refine lv_aload_n hx hb dL_law_248 rfl (lv_at hl 3 rfl) ?_
  refine lv_aload_n hx hb dL_law_249 rfl (lv_at hl 1 rfl) ?_
  refine lv_iload_n hx hb dL_law_250 rfl (lv_at hl 0 rfl) ?_
  refine lv_iconst (v := nI 1) hx hb dL_law_251 (by decide) ?_
  refine xIadd C dL_law_252 ?_
  refine xSld C hX hbl hbA hS (show i + 1 < L by omega) (by omega) dL_law_253 ?_
  refine lv_aload_n hx hb dL_law_254 rfl (lv_at hl 1 rfl) ?_
  refine lv_iload_n hx hb dL_law_255 rfl (lv_at hl 0 rfl) ?_
  refine lv_iconst (v := nI 2) hx hb dL_law_256 (by decide) ?_
  refine xIadd C dL_law_257 ?_
  refine xSld C hX hbl hbA hS (show i + 2 < L by omega) (by omega) dL_law_258 ?_
  refine xLaw2 hP hD hS hA (va_runV (As := [.int (xs (i + 1)), .int (xs (i + 2))]) (rest := [.int r1]) C (k5_seal l D kA a S u2 hI h2 (xs (i + 1)) (xs (i + 2)) _) (cwV 2 hts gL_law_X5_seal rfl rfl rfl (by decide +kernel) ⟨Nat.le_of_ble_eq_true rfl, Nat.le_of_ble_eq_true rfl⟩) (xPreVw (q0 := 0) hN (va_P2 hP) (va_Db hD) (fun _ h => Or.inr h) rfl hat2 rfl) rfl rfl hl.1 rfl (lv_room (Nat.le_of_ble_eq_true rfl)) dL_law_259 ⟨hcl, hsl⟩) (fun r2 v2 H locs hq2 hP hD hS => ?_)
  obtain ⟨e2, g2⟩ := hq2
  refine lv_icmp_eq (tgt := 863) hx hb dL_law_262 (by decide) (fun _ => ?_) (fun h9 => absurd (e1.trans e2.symm) h9)
  refine W.widen (k := cells + 14) (n := slots + 212) (by omega) (by omega) ?_
  exact kk _ _ _ _ _ (i_seal hI) g1 g2 hP hD hS
set_option maxHeartbeats 4000000 in
set_option maxRecDepth 100000 in
theorem law_move {p : Program} {l : Launch} {e : Env} {s : State} {m : MethodId} {below : List Frame} {meth : Method} {c : Code} {H : Heap} {locs : List Loc} {cells slots : Nat} {Q : State → Prop} {ls : Array Slot} {D : va_G} {kA : Nat → ClassId} {b L i : Nat} {xs : Nat → Int32} {ox os ob ot a : Nat → Nat} {S : Sig} {u1 u2 : va_W} (C : CallFix p m c cL_law 4 s #[Value.ref b] wsL_law RL) (hN : KN D kA s) (hX : va_X b L xs s s.heap) (hbl : b < s.heap.size) (hi : i + 5 < L) (hL : L ≤ 3072) (hI : InvS S) (h1 : ClsR kA ox os ob ot S u1) (h2 : ModR kA a S u2) (hP : va_P D vwCl (u1 ++ u2) H) (hD : va_D (fun q : Nat => s.heap.size ≤ q) (u1 ++ u2)) (hS : va_S (fun q : Nat => s.heap.size ≤ q) s.heap H locs) (hl : lv_has ls 4 [(3, .int (nI i)), (0, .ref b), (1, .ref (ox 0)), (2, .ref (a 0))]) (hcl : cells + 14 ≤ 600000) (hsl : slots + 212 ≤ 7302250) (kk : ∀ (S2 : Sig) (v1 v2 : va_W) (H1 : Heap) (locs1 : List Loc), InvS S2 → ClsR kA ox os ob ot S2 v1 → ModR kA a S2 v2 → va_P D vwCl (v1 ++ v2) H1 → va_D (fun q : Nat => s.heap.size ≤ q) (v1 ++ v2) → va_S (fun q : Nat => s.heap.size ≤ q) s.heap H1 locs1 → W p l e room_1 s m #[Value.ref b] below meth c H1 locs1 (cells + 14) (slots + 212) Q (F0 m 863 ls [])) : W p l e room_1 s m #[Value.ref b] below meth c H locs cells slots Q (F0 m 267 ls []) := by
  obtain ⟨hx, hb, hml, hown, hts⟩ := id C
  have hA : ∀ q : Nat, s.heap.size ≤ q → (fun q : Nat => s.heap.size ≤ q) q := fun _ h => h
  have hbA : ¬ (fun q : Nat => s.heap.size ≤ q) b := Nat.not_le.mpr hbl
  obtain ⟨f1, hat1⟩ := cls_at h1
  obtain ⟨f2, hat2⟩ := mod_at h2
  refine lv_aload_n hx hb dL_law_267 rfl (lv_at hl 2 rfl) ?_
  refine lv_aload_n hx hb dL_law_268 rfl (lv_at hl 1 rfl) ?_
  refine lv_iload_n hx hb dL_law_269 rfl (lv_at hl 0 rfl) ?_
  refine lv_iconst (v := nI 1) hx hb dL_law_270 (by decide) ?_
  refine xIadd C dL_law_271 ?_
  refine xSld C hX hbl hbA hS (show i + 1 < L by omega) (by omega) dL_law_272 ?_
  refine lv_aload_n hx hb dL_law_273 rfl (lv_at hl 1 rfl) ?_
  refine lv_iload_n hx hb dL_law_274 rfl (lv_at hl 0 rfl) ?_
  refine lv_iconst (v := nI 2) hx hb dL_law_275 (by decide) ?_
  refine xIadd C dL_law_276 ?_
  refine xSld C hX hbl hbA hS (show i + 2 < L by omega) (by omega) dL_law_277 ?_
  refine xLaw1 hP hD hS hA (va_runV (As := [.int (xs (i + 1)), .int (xs (i + 2))]) (rest := []) C (k4_move l D kA ox os ob ot S u1 hI h1 (xs (i + 1)) (xs (i + 2)) _) (cwV 2 hts gL_law_X4_move rfl rfl rfl (by decide +kernel) ⟨Nat.le_of_ble_eq_true rfl, Nat.le_of_ble_eq_true rfl⟩) (xPreVw (q0 := 0) hN (va_P1 hP) (va_Da hD) (fun _ h => Or.inr h) rfl hat1 rfl) rfl rfl hl.1 rfl (lv_room (Nat.le_of_ble_eq_true rfl)) dL_law_278 ⟨hcl, hsl⟩) (fun r1 v1 H locs hq1 hP hD hS => ?_)
  obtain ⟨e1, g1⟩ := hq1
  refine lv_aload_n hx hb dL_law_281 rfl (lv_at hl 3 rfl) ?_
  refine lv_aload_n hx hb dL_law_282 rfl (lv_at hl 1 rfl) ?_
  refine lv_iload_n hx hb dL_law_283 rfl (lv_at hl 0 rfl) ?_
  refine lv_iconst (v := nI 1) hx hb dL_law_284 (by decide) ?_
  refine xIadd C dL_law_285 ?_
  refine xSld C hX hbl hbA hS (show i + 1 < L by omega) (by omega) dL_law_286 ?_
  refine lv_aload_n hx hb dL_law_287 rfl (lv_at hl 1 rfl) ?_
  refine lv_iload_n hx hb dL_law_288 rfl (lv_at hl 0 rfl) ?_
  refine lv_iconst (v := nI 2) hx hb dL_law_289 (by decide) ?_
  refine xIadd C dL_law_290 ?_
  refine xSld C hX hbl hbA hS (show i + 2 < L by omega) (by omega) dL_law_291 ?_
  refine xLaw2 hP hD hS hA (va_runV (As := [.int (xs (i + 1)), .int (xs (i + 2))]) (rest := [.int r1]) C (k5_move l D kA a S u2 hI h2 (xs (i + 1)) (xs (i + 2)) _) (cwV 2 hts gL_law_X5_move rfl rfl rfl (by decide +kernel) ⟨Nat.le_of_ble_eq_true rfl, Nat.le_of_ble_eq_true rfl⟩) (xPreVw (q0 := 0) hN (va_P2 hP) (va_Db hD) (fun _ h => Or.inr h) rfl hat2 rfl) rfl rfl hl.1 rfl (lv_room (Nat.le_of_ble_eq_true rfl)) dL_law_292 ⟨hcl, hsl⟩) (fun r2 v2 H locs hq2 hP hD hS => ?_)
  obtain ⟨e2, g2⟩ := hq2
  refine lv_icmp_eq (tgt := 863) hx hb dL_law_295 (by decide) (fun _ => ?_) (fun h9 => absurd (e1.trans e2.symm) h9)
  refine W.widen (k := cells + 14) (n := slots + 212) (by omega) (by omega) ?_
  exact kk _ _ _ _ _ (i_move hI) g1 g2 hP hD hS
set_option maxHeartbeats 4000000 in
set_option maxRecDepth 100000 in
theorem law_read {p : Program} {l : Launch} {e : Env} {s : State} {m : MethodId} {below : List Frame} {meth : Method} {c : Code} {H : Heap} {locs : List Loc} {cells slots : Nat} {Q : State → Prop} {ls : Array Slot} {D : va_G} {kA : Nat → ClassId} {b L i : Nat} {xs : Nat → Int32} {ox os ob ot a : Nat → Nat} {S : Sig} {u1 u2 : va_W} (C : CallFix p m c cL_law 4 s #[Value.ref b] wsL_law RL) (hN : KN D kA s) (hX : va_X b L xs s s.heap) (hbl : b < s.heap.size) (hi : i + 5 < L) (hL : L ≤ 3072) (hI : InvS S) (h1 : ClsR kA ox os ob ot S u1) (h2 : ModR kA a S u2) (hP : va_P D vwCl (u1 ++ u2) H) (hD : va_D (fun q : Nat => s.heap.size ≤ q) (u1 ++ u2)) (hS : va_S (fun q : Nat => s.heap.size ≤ q) s.heap H locs) (hl : lv_has ls 4 [(3, .int (nI i)), (0, .ref b), (1, .ref (ox 0)), (2, .ref (a 0))]) (hcl : cells + 14 ≤ 600000) (hsl : slots + 212 ≤ 7302250) (kk : ∀ (S2 : Sig) (v1 v2 : va_W) (H1 : Heap) (locs1 : List Loc), InvS S2 → ClsR kA ox os ob ot S2 v1 → ModR kA a S2 v2 → va_P D vwCl (v1 ++ v2) H1 → va_D (fun q : Nat => s.heap.size ≤ q) (v1 ++ v2) → va_S (fun q : Nat => s.heap.size ≤ q) s.heap H1 locs1 → W p l e room_1 s m #[Value.ref b] below meth c H1 locs1 (cells + 14) (slots + 212) Q (F0 m 863 ls [])) : W p l e room_1 s m #[Value.ref b] below meth c H locs cells slots Q (F0 m 300 ls []) := by
  obtain ⟨hx, hb, hml, hown, hts⟩ := id C
  have hA : ∀ q : Nat, s.heap.size ≤ q → (fun q : Nat => s.heap.size ≤ q) q := fun _ h => h
  have hbA : ¬ (fun q : Nat => s.heap.size ≤ q) b := Nat.not_le.mpr hbl
  obtain ⟨f1, hat1⟩ := cls_at h1
  obtain ⟨f2, hat2⟩ := mod_at h2
  refine lv_aload_n hx hb dL_law_300 rfl (lv_at hl 2 rfl) ?_
  refine xLaw1 hP hD hS hA (va_runV (As := []) (rest := []) C (k4_read l D kA ox os ob ot S u1 hI h1  _) (cwV 0 hts gL_law_X4_read rfl rfl rfl (by decide +kernel) ⟨Nat.le_of_ble_eq_true rfl, Nat.le_of_ble_eq_true rfl⟩) (xPreVw (q0 := 0) hN (va_P1 hP) (va_Da hD) (fun _ h => Or.inr h) rfl hat1 rfl) rfl rfl hl.1 rfl (lv_room (Nat.le_of_ble_eq_true rfl)) dL_law_301 ⟨hcl, hsl⟩) (fun r1 v1 H locs hq1 hP hD hS => ?_)
  obtain ⟨e1, g1⟩ := hq1
  refine lv_aload_n hx hb dL_law_304 rfl (lv_at hl 3 rfl) ?_
  refine xLaw2 hP hD hS hA (va_runV (As := []) (rest := [.int r1]) C (k5_read l D kA a S u2 hI h2  _) (cwV 0 hts gL_law_X5_read rfl rfl rfl (by decide +kernel) ⟨Nat.le_of_ble_eq_true rfl, Nat.le_of_ble_eq_true rfl⟩) (xPreVw (q0 := 0) hN (va_P2 hP) (va_Db hD) (fun _ h => Or.inr h) rfl hat2 rfl) rfl rfl hl.1 rfl (lv_room (Nat.le_of_ble_eq_true rfl)) dL_law_305 ⟨hcl, hsl⟩) (fun r2 v2 H locs hq2 hP hD hS => ?_)
  obtain ⟨e2, g2⟩ := hq2
  refine lv_icmp_eq (tgt := 863) hx hb dL_law_308 (by decide) (fun _ => ?_) (fun h9 => absurd (e1.trans e2.symm) h9)
  refine W.widen (k := cells + 14) (n := slots + 212) (by omega) (by omega) ?_
  exact kk _ _ _ _ _ (i_read hI) g1 g2 hP hD hS
set_option maxHeartbeats 4000000 in
set_option maxRecDepth 100000 in
theorem law_tidy {p : Program} {l : Launch} {e : Env} {s : State} {m : MethodId} {below : List Frame} {meth : Method} {c : Code} {H : Heap} {locs : List Loc} {cells slots : Nat} {Q : State → Prop} {ls : Array Slot} {D : va_G} {kA : Nat → ClassId} {b L i : Nat} {xs : Nat → Int32} {ox os ob ot a : Nat → Nat} {S : Sig} {u1 u2 : va_W} (C : CallFix p m c cL_law 4 s #[Value.ref b] wsL_law RL) (hN : KN D kA s) (hX : va_X b L xs s s.heap) (hbl : b < s.heap.size) (hi : i + 5 < L) (hL : L ≤ 3072) (hI : InvS S) (h1 : ClsR kA ox os ob ot S u1) (h2 : ModR kA a S u2) (hP : va_P D vwCl (u1 ++ u2) H) (hD : va_D (fun q : Nat => s.heap.size ≤ q) (u1 ++ u2)) (hS : va_S (fun q : Nat => s.heap.size ≤ q) s.heap H locs) (hl : lv_has ls 4 [(3, .int (nI i)), (0, .ref b), (1, .ref (ox 0)), (2, .ref (a 0))]) (hcl : cells + 14 ≤ 600000) (hsl : slots + 212 ≤ 7302250) (kk : ∀ (S2 : Sig) (v1 v2 : va_W) (H1 : Heap) (locs1 : List Loc), InvS S2 → ClsR kA ox os ob ot S2 v1 → ModR kA a S2 v2 → va_P D vwCl (v1 ++ v2) H1 → va_D (fun q : Nat => s.heap.size ≤ q) (v1 ++ v2) → va_S (fun q : Nat => s.heap.size ≤ q) s.heap H1 locs1 → W p l e room_1 s m #[Value.ref b] below meth c H1 locs1 (cells + 14) (slots + 212) Q (F0 m 863 ls [])) : W p l e room_1 s m #[Value.ref b] below meth c H locs cells slots Q (F0 m 313 ls []) := by
  obtain ⟨hx, hb, hml, hown, hts⟩ := id C
  have hA : ∀ q : Nat, s.heap.size ≤ q → (fun q : Nat => s.heap.size ≤ q) q := fun _ h => h
  have hbA : ¬ (fun q : Nat => s.heap.size ≤ q) b := Nat.not_le.mpr hbl
  obtain ⟨f1, hat1⟩ := cls_at h1
  obtain ⟨f2, hat2⟩ := mod_at h2
  refine lv_aload_n hx hb dL_law_313 rfl (lv_at hl 2 rfl) ?_
  refine xLaw1 hP hD hS hA (va_runV (As := []) (rest := []) C (k4_tidy l D kA ox os ob ot S u1 hI h1  _) (cwV 0 hts gL_law_X4_tidy rfl rfl rfl (by decide +kernel) ⟨Nat.le_of_ble_eq_true rfl, Nat.le_of_ble_eq_true rfl⟩) (xPreVw (q0 := 0) hN (va_P1 hP) (va_Da hD) (fun _ h => Or.inr h) rfl hat1 rfl) rfl rfl hl.1 rfl (lv_room (Nat.le_of_ble_eq_true rfl)) dL_law_314 ⟨hcl, hsl⟩) (fun r1 v1 H locs hq1 hP hD hS => ?_)
  obtain ⟨e1, g1⟩ := hq1
  refine lv_aload_n hx hb dL_law_317 rfl (lv_at hl 3 rfl) ?_
  refine xLaw2 hP hD hS hA (va_runV (As := []) (rest := [.int r1]) C (k5_tidy l D kA a S u2 hI h2  _) (cwV 0 hts gL_law_X5_tidy rfl rfl rfl (by decide +kernel) ⟨Nat.le_of_ble_eq_true rfl, Nat.le_of_ble_eq_true rfl⟩) (xPreVw (q0 := 0) hN (va_P2 hP) (va_Db hD) (fun _ h => Or.inr h) rfl hat2 rfl) rfl rfl hl.1 rfl (lv_room (Nat.le_of_ble_eq_true rfl)) dL_law_318 ⟨hcl, hsl⟩) (fun r2 v2 H locs hq2 hP hD hS => ?_)
  obtain ⟨e2, g2⟩ := hq2
  refine lv_icmp_eq (tgt := 863) hx hb dL_law_321 (by decide) (fun _ => ?_) (fun h9 => absurd (e1.trans e2.symm) h9)
  refine W.widen (k := cells + 14) (n := slots + 212) (by omega) (by omega) ?_
  exact kk _ _ _ _ _ (i_tidy hI) g1 g2 hP hD hS
set_option maxHeartbeats 4000000 in
set_option maxRecDepth 100000 in
theorem law_join {p : Program} {l : Launch} {e : Env} {s : State} {m : MethodId} {below : List Frame} {meth : Method} {c : Code} {H : Heap} {locs : List Loc} {cells slots : Nat} {Q : State → Prop} {ls : Array Slot} {D : va_G} {kA : Nat → ClassId} {b L i : Nat} {xs : Nat → Int32} {ox os ob ot a : Nat → Nat} {S : Sig} {u1 u2 : va_W} (C : CallFix p m c cL_law 4 s #[Value.ref b] wsL_law RL) (hN : KN D kA s) (hX : va_X b L xs s s.heap) (hbl : b < s.heap.size) (hi : i + 5 < L) (hL : L ≤ 3072) (hI : InvS S) (h1 : ClsR kA ox os ob ot S u1) (h2 : ModR kA a S u2) (hP : va_P D vwCl (u1 ++ u2) H) (hD : va_D (fun q : Nat => s.heap.size ≤ q) (u1 ++ u2)) (hS : va_S (fun q : Nat => s.heap.size ≤ q) s.heap H locs) (hl : lv_has ls 4 [(3, .int (nI i)), (0, .ref b), (1, .ref (ox 0)), (2, .ref (a 0))]) (hcl : cells + 14 ≤ 600000) (hsl : slots + 212 ≤ 7302250) (kk : ∀ (S2 : Sig) (v1 v2 : va_W) (H1 : Heap) (locs1 : List Loc), InvS S2 → ClsR kA ox os ob ot S2 v1 → ModR kA a S2 v2 → va_P D vwCl (v1 ++ v2) H1 → va_D (fun q : Nat => s.heap.size ≤ q) (v1 ++ v2) → va_S (fun q : Nat => s.heap.size ≤ q) s.heap H1 locs1 → W p l e room_1 s m #[Value.ref b] below meth c H1 locs1 (cells + 14) (slots + 212) Q (F0 m 863 ls [])) : W p l e room_1 s m #[Value.ref b] below meth c H locs cells slots Q (F0 m 326 ls []) := by
  obtain ⟨hx, hb, hml, hown, hts⟩ := id C
  have hA : ∀ q : Nat, s.heap.size ≤ q → (fun q : Nat => s.heap.size ≤ q) q := fun _ h => h
  have hbA : ¬ (fun q : Nat => s.heap.size ≤ q) b := Nat.not_le.mpr hbl
  obtain ⟨f1, hat1⟩ := cls_at h1
  obtain ⟨f2, hat2⟩ := mod_at h2
  refine lv_aload_n hx hb dL_law_326 rfl (lv_at hl 2 rfl) ?_
  refine lv_aload_n hx hb dL_law_327 rfl (lv_at hl 1 rfl) ?_
  refine lv_iload_n hx hb dL_law_328 rfl (lv_at hl 0 rfl) ?_
  refine lv_iconst (v := nI 1) hx hb dL_law_329 (by decide) ?_
  refine xIadd C dL_law_330 ?_
  refine xSld C hX hbl hbA hS (show i + 1 < L by omega) (by omega) dL_law_331 ?_
  refine lv_aload_n hx hb dL_law_332 rfl (lv_at hl 1 rfl) ?_
  refine lv_iload_n hx hb dL_law_333 rfl (lv_at hl 0 rfl) ?_
  refine lv_iconst (v := nI 2) hx hb dL_law_334 (by decide) ?_
  refine xIadd C dL_law_335 ?_
  refine xSld C hX hbl hbA hS (show i + 2 < L by omega) (by omega) dL_law_336 ?_
  refine xLaw1 hP hD hS hA (va_runV (As := [.int (xs (i + 1)), .int (xs (i + 2))]) (rest := []) C (k4_join l D kA ox os ob ot S u1 hI h1 (xs (i + 1)) (xs (i + 2)) _) (cwV 2 hts gL_law_X4_join rfl rfl rfl (by decide +kernel) ⟨Nat.le_of_ble_eq_true rfl, Nat.le_of_ble_eq_true rfl⟩) (xPreVw (q0 := 0) hN (va_P1 hP) (va_Da hD) (fun _ h => Or.inr h) rfl hat1 rfl) rfl rfl hl.1 rfl (lv_room (Nat.le_of_ble_eq_true rfl)) dL_law_337 ⟨hcl, hsl⟩) (fun r1 v1 H locs hq1 hP hD hS => ?_)
  obtain ⟨e1, g1⟩ := hq1
  refine lv_aload_n hx hb dL_law_340 rfl (lv_at hl 3 rfl) ?_
  refine lv_aload_n hx hb dL_law_341 rfl (lv_at hl 1 rfl) ?_
  refine lv_iload_n hx hb dL_law_342 rfl (lv_at hl 0 rfl) ?_
  refine lv_iconst (v := nI 1) hx hb dL_law_343 (by decide) ?_
  refine xIadd C dL_law_344 ?_
  refine xSld C hX hbl hbA hS (show i + 1 < L by omega) (by omega) dL_law_345 ?_
  refine lv_aload_n hx hb dL_law_346 rfl (lv_at hl 1 rfl) ?_
  refine lv_iload_n hx hb dL_law_347 rfl (lv_at hl 0 rfl) ?_
  refine lv_iconst (v := nI 2) hx hb dL_law_348 (by decide) ?_
  refine xIadd C dL_law_349 ?_
  refine xSld C hX hbl hbA hS (show i + 2 < L by omega) (by omega) dL_law_350 ?_
  refine xLaw2 hP hD hS hA (va_runV (As := [.int (xs (i + 1)), .int (xs (i + 2))]) (rest := [.int r1]) C (k5_join l D kA a S u2 hI h2 (xs (i + 1)) (xs (i + 2)) _) (cwV 2 hts gL_law_X5_join rfl rfl rfl (by decide +kernel) ⟨Nat.le_of_ble_eq_true rfl, Nat.le_of_ble_eq_true rfl⟩) (xPreVw (q0 := 0) hN (va_P2 hP) (va_Db hD) (fun _ h => Or.inr h) rfl hat2 rfl) rfl rfl hl.1 rfl (lv_room (Nat.le_of_ble_eq_true rfl)) dL_law_351 ⟨hcl, hsl⟩) (fun r2 v2 H locs hq2 hP hD hS => ?_)
  obtain ⟨e2, g2⟩ := hq2
  refine lv_icmp_eq (tgt := 863) hx hb dL_law_354 (by decide) (fun _ => ?_) (fun h9 => absurd (e1.trans e2.symm) h9)
  refine W.widen (k := cells + 14) (n := slots + 212) (by omega) (by omega) ?_
  exact kk _ _ _ _ _ (i_join hI) g1 g2 hP hD hS
set_option maxHeartbeats 4000000 in
set_option maxRecDepth 100000 in
theorem law_leave {p : Program} {l : Launch} {e : Env} {s : State} {m : MethodId} {below : List Frame} {meth : Method} {c : Code} {H : Heap} {locs : List Loc} {cells slots : Nat} {Q : State → Prop} {ls : Array Slot} {D : va_G} {kA : Nat → ClassId} {b L i : Nat} {xs : Nat → Int32} {ox os ob ot a : Nat → Nat} {S : Sig} {u1 u2 : va_W} (C : CallFix p m c cL_law 4 s #[Value.ref b] wsL_law RL) (hN : KN D kA s) (hX : va_X b L xs s s.heap) (hbl : b < s.heap.size) (hi : i + 5 < L) (hL : L ≤ 3072) (hI : InvS S) (h1 : ClsR kA ox os ob ot S u1) (h2 : ModR kA a S u2) (hP : va_P D vwCl (u1 ++ u2) H) (hD : va_D (fun q : Nat => s.heap.size ≤ q) (u1 ++ u2)) (hS : va_S (fun q : Nat => s.heap.size ≤ q) s.heap H locs) (hl : lv_has ls 4 [(3, .int (nI i)), (0, .ref b), (1, .ref (ox 0)), (2, .ref (a 0))]) (hcl : cells + 14 ≤ 600000) (hsl : slots + 212 ≤ 7302250) (kk : ∀ (S2 : Sig) (v1 v2 : va_W) (H1 : Heap) (locs1 : List Loc), InvS S2 → ClsR kA ox os ob ot S2 v1 → ModR kA a S2 v2 → va_P D vwCl (v1 ++ v2) H1 → va_D (fun q : Nat => s.heap.size ≤ q) (v1 ++ v2) → va_S (fun q : Nat => s.heap.size ≤ q) s.heap H1 locs1 → W p l e room_1 s m #[Value.ref b] below meth c H1 locs1 (cells + 14) (slots + 212) Q (F0 m 863 ls [])) : W p l e room_1 s m #[Value.ref b] below meth c H locs cells slots Q (F0 m 359 ls []) := by
  obtain ⟨hx, hb, hml, hown, hts⟩ := id C
  have hA : ∀ q : Nat, s.heap.size ≤ q → (fun q : Nat => s.heap.size ≤ q) q := fun _ h => h
  have hbA : ¬ (fun q : Nat => s.heap.size ≤ q) b := Nat.not_le.mpr hbl
  obtain ⟨f1, hat1⟩ := cls_at h1
  obtain ⟨f2, hat2⟩ := mod_at h2
  refine lv_aload_n hx hb dL_law_359 rfl (lv_at hl 2 rfl) ?_
  refine lv_aload_n hx hb dL_law_360 rfl (lv_at hl 1 rfl) ?_
  refine lv_iload_n hx hb dL_law_361 rfl (lv_at hl 0 rfl) ?_
  refine lv_iconst (v := nI 1) hx hb dL_law_362 (by decide) ?_
  refine xIadd C dL_law_363 ?_
  refine xSld C hX hbl hbA hS (show i + 1 < L by omega) (by omega) dL_law_364 ?_
  refine xLaw1 hP hD hS hA (va_runV (As := [.int (xs (i + 1))]) (rest := []) C (k4_leave l D kA ox os ob ot S u1 hI h1 (xs (i + 1)) _) (cwV 1 hts gL_law_X4_leave rfl rfl rfl (by decide +kernel) ⟨Nat.le_of_ble_eq_true rfl, Nat.le_of_ble_eq_true rfl⟩) (xPreVw (q0 := 0) hN (va_P1 hP) (va_Da hD) (fun _ h => Or.inr h) rfl hat1 rfl) rfl rfl hl.1 rfl (lv_room (Nat.le_of_ble_eq_true rfl)) dL_law_365 ⟨hcl, hsl⟩) (fun r1 v1 H locs hq1 hP hD hS => ?_)
  obtain ⟨e1, g1⟩ := hq1
  refine lv_aload_n hx hb dL_law_368 rfl (lv_at hl 3 rfl) ?_
  refine lv_aload_n hx hb dL_law_369 rfl (lv_at hl 1 rfl) ?_
  refine lv_iload_n hx hb dL_law_370 rfl (lv_at hl 0 rfl) ?_
  refine lv_iconst (v := nI 1) hx hb dL_law_371 (by decide) ?_
  refine xIadd C dL_law_372 ?_
  refine xSld C hX hbl hbA hS (show i + 1 < L by omega) (by omega) dL_law_373 ?_
  refine xLaw2 hP hD hS hA (va_runV (As := [.int (xs (i + 1))]) (rest := [.int r1]) C (k5_leave l D kA a S u2 hI h2 (xs (i + 1)) _) (cwV 1 hts gL_law_X5_leave rfl rfl rfl (by decide +kernel) ⟨Nat.le_of_ble_eq_true rfl, Nat.le_of_ble_eq_true rfl⟩) (xPreVw (q0 := 0) hN (va_P2 hP) (va_Db hD) (fun _ h => Or.inr h) rfl hat2 rfl) rfl rfl hl.1 rfl (lv_room (Nat.le_of_ble_eq_true rfl)) dL_law_374 ⟨hcl, hsl⟩) (fun r2 v2 H locs hq2 hP hD hS => ?_)
  obtain ⟨e2, g2⟩ := hq2
  refine lv_icmp_eq (tgt := 863) hx hb dL_law_377 (by decide) (fun _ => ?_) (fun h9 => absurd (e1.trans e2.symm) h9)
  refine W.widen (k := cells + 14) (n := slots + 212) (by omega) (by omega) ?_
  exact kk _ _ _ _ _ (i_leave hI) g1 g2 hP hD hS
set_option maxHeartbeats 4000000 in
set_option maxRecDepth 100000 in
theorem law_rank {p : Program} {l : Launch} {e : Env} {s : State} {m : MethodId} {below : List Frame} {meth : Method} {c : Code} {H : Heap} {locs : List Loc} {cells slots : Nat} {Q : State → Prop} {ls : Array Slot} {D : va_G} {kA : Nat → ClassId} {b L i : Nat} {xs : Nat → Int32} {ox os ob ot a : Nat → Nat} {S : Sig} {u1 u2 : va_W} (C : CallFix p m c cL_law 4 s #[Value.ref b] wsL_law RL) (hN : KN D kA s) (hX : va_X b L xs s s.heap) (hbl : b < s.heap.size) (hi : i + 5 < L) (hL : L ≤ 3072) (hI : InvS S) (h1 : ClsR kA ox os ob ot S u1) (h2 : ModR kA a S u2) (hP : va_P D vwCl (u1 ++ u2) H) (hD : va_D (fun q : Nat => s.heap.size ≤ q) (u1 ++ u2)) (hS : va_S (fun q : Nat => s.heap.size ≤ q) s.heap H locs) (hl : lv_has ls 4 [(3, .int (nI i)), (0, .ref b), (1, .ref (ox 0)), (2, .ref (a 0))]) (hcl : cells + 14 ≤ 600000) (hsl : slots + 212 ≤ 7302250) (kk : ∀ (S2 : Sig) (v1 v2 : va_W) (H1 : Heap) (locs1 : List Loc), InvS S2 → ClsR kA ox os ob ot S2 v1 → ModR kA a S2 v2 → va_P D vwCl (v1 ++ v2) H1 → va_D (fun q : Nat => s.heap.size ≤ q) (v1 ++ v2) → va_S (fun q : Nat => s.heap.size ≤ q) s.heap H1 locs1 → W p l e room_1 s m #[Value.ref b] below meth c H1 locs1 (cells + 14) (slots + 212) Q (F0 m 863 ls [])) : W p l e room_1 s m #[Value.ref b] below meth c H locs cells slots Q (F0 m 382 ls []) := by
  obtain ⟨hx, hb, hml, hown, hts⟩ := id C
  have hA : ∀ q : Nat, s.heap.size ≤ q → (fun q : Nat => s.heap.size ≤ q) q := fun _ h => h
  have hbA : ¬ (fun q : Nat => s.heap.size ≤ q) b := Nat.not_le.mpr hbl
  obtain ⟨f1, hat1⟩ := cls_at h1
  obtain ⟨f2, hat2⟩ := mod_at h2
  refine lv_aload_n hx hb dL_law_382 rfl (lv_at hl 2 rfl) ?_
  refine lv_aload_n hx hb dL_law_383 rfl (lv_at hl 1 rfl) ?_
  refine lv_iload_n hx hb dL_law_384 rfl (lv_at hl 0 rfl) ?_
  refine lv_iconst (v := nI 1) hx hb dL_law_385 (by decide) ?_
  refine xIadd C dL_law_386 ?_
  refine xSld C hX hbl hbA hS (show i + 1 < L by omega) (by omega) dL_law_387 ?_
  refine lv_aload_n hx hb dL_law_388 rfl (lv_at hl 1 rfl) ?_
  refine lv_iload_n hx hb dL_law_389 rfl (lv_at hl 0 rfl) ?_
  refine lv_iconst (v := nI 2) hx hb dL_law_390 (by decide) ?_
  refine xIadd C dL_law_391 ?_
  refine xSld C hX hbl hbA hS (show i + 2 < L by omega) (by omega) dL_law_392 ?_
  refine xLaw1 hP hD hS hA (va_runV (As := [.int (xs (i + 1)), .int (xs (i + 2))]) (rest := []) C (k4_rank l D kA ox os ob ot S u1 hI h1 (xs (i + 1)) (xs (i + 2)) _) (cwV 2 hts gL_law_X4_rank rfl rfl rfl (by decide +kernel) ⟨Nat.le_of_ble_eq_true rfl, Nat.le_of_ble_eq_true rfl⟩) (xPreVw (q0 := 0) hN (va_P1 hP) (va_Da hD) (fun _ h => Or.inr h) rfl hat1 rfl) rfl rfl hl.1 rfl (lv_room (Nat.le_of_ble_eq_true rfl)) dL_law_393 ⟨hcl, hsl⟩) (fun r1 v1 H locs hq1 hP hD hS => ?_)
  obtain ⟨e1, g1⟩ := hq1
  refine lv_aload_n hx hb dL_law_396 rfl (lv_at hl 3 rfl) ?_
  refine lv_aload_n hx hb dL_law_397 rfl (lv_at hl 1 rfl) ?_
  refine lv_iload_n hx hb dL_law_398 rfl (lv_at hl 0 rfl) ?_
  refine lv_iconst (v := nI 1) hx hb dL_law_399 (by decide) ?_
  refine xIadd C dL_law_400 ?_
  refine xSld C hX hbl hbA hS (show i + 1 < L by omega) (by omega) dL_law_401 ?_
  refine lv_aload_n hx hb dL_law_402 rfl (lv_at hl 1 rfl) ?_
  refine lv_iload_n hx hb dL_law_403 rfl (lv_at hl 0 rfl) ?_
  refine lv_iconst (v := nI 2) hx hb dL_law_404 (by decide) ?_
  refine xIadd C dL_law_405 ?_
  refine xSld C hX hbl hbA hS (show i + 2 < L by omega) (by omega) dL_law_406 ?_
  refine xLaw2 hP hD hS hA (va_runV (As := [.int (xs (i + 1)), .int (xs (i + 2))]) (rest := [.int r1]) C (k5_rank l D kA a S u2 hI h2 (xs (i + 1)) (xs (i + 2)) _) (cwV 2 hts gL_law_X5_rank rfl rfl rfl (by decide +kernel) ⟨Nat.le_of_ble_eq_true rfl, Nat.le_of_ble_eq_true rfl⟩) (xPreVw (q0 := 0) hN (va_P2 hP) (va_Db hD) (fun _ h => Or.inr h) rfl hat2 rfl) rfl rfl hl.1 rfl (lv_room (Nat.le_of_ble_eq_true rfl)) dL_law_407 ⟨hcl, hsl⟩) (fun r2 v2 H locs hq2 hP hD hS => ?_)
  obtain ⟨e2, g2⟩ := hq2
  refine lv_icmp_eq (tgt := 863) hx hb dL_law_410 (by decide) (fun _ => ?_) (fun h9 => absurd (e1.trans e2.symm) h9)
  refine W.widen (k := cells + 14) (n := slots + 212) (by omega) (by omega) ?_
  exact kk _ _ _ _ _ (i_rank hI) g1 g2 hP hD hS
set_option maxHeartbeats 4000000 in
set_option maxRecDepth 100000 in
theorem law_act {p : Program} {l : Launch} {e : Env} {s : State} {m : MethodId} {below : List Frame} {meth : Method} {c : Code} {H : Heap} {locs : List Loc} {cells slots : Nat} {Q : State → Prop} {ls : Array Slot} {D : va_G} {kA : Nat → ClassId} {b L i : Nat} {xs : Nat → Int32} {ox os ob ot a : Nat → Nat} {S : Sig} {u1 u2 : va_W} (C : CallFix p m c cL_law 4 s #[Value.ref b] wsL_law RL) (hN : KN D kA s) (hX : va_X b L xs s s.heap) (hbl : b < s.heap.size) (hi : i + 5 < L) (hL : L ≤ 3072) (hI : InvS S) (h1 : ClsR kA ox os ob ot S u1) (h2 : ModR kA a S u2) (hP : va_P D vwCl (u1 ++ u2) H) (hD : va_D (fun q : Nat => s.heap.size ≤ q) (u1 ++ u2)) (hS : va_S (fun q : Nat => s.heap.size ≤ q) s.heap H locs) (hl : lv_has ls 4 [(3, .int (nI i)), (0, .ref b), (1, .ref (ox 0)), (2, .ref (a 0))]) (hcl : cells + 14 ≤ 600000) (hsl : slots + 212 ≤ 7302250) (kk : ∀ (S2 : Sig) (v1 v2 : va_W) (H1 : Heap) (locs1 : List Loc), InvS S2 → ClsR kA ox os ob ot S2 v1 → ModR kA a S2 v2 → va_P D vwCl (v1 ++ v2) H1 → va_D (fun q : Nat => s.heap.size ≤ q) (v1 ++ v2) → va_S (fun q : Nat => s.heap.size ≤ q) s.heap H1 locs1 → W p l e room_1 s m #[Value.ref b] below meth c H1 locs1 (cells + 14) (slots + 212) Q (F0 m 863 ls [])) : W p l e room_1 s m #[Value.ref b] below meth c H locs cells slots Q (F0 m 415 ls []) := by
  obtain ⟨hx, hb, hml, hown, hts⟩ := id C
  have hA : ∀ q : Nat, s.heap.size ≤ q → (fun q : Nat => s.heap.size ≤ q) q := fun _ h => h
  have hbA : ¬ (fun q : Nat => s.heap.size ≤ q) b := Nat.not_le.mpr hbl
  obtain ⟨f1, hat1⟩ := cls_at h1
  obtain ⟨f2, hat2⟩ := mod_at h2
  refine lv_aload_n hx hb dL_law_415 rfl (lv_at hl 2 rfl) ?_
  refine lv_aload_n hx hb dL_law_416 rfl (lv_at hl 1 rfl) ?_
  refine lv_iload_n hx hb dL_law_417 rfl (lv_at hl 0 rfl) ?_
  refine lv_iconst (v := nI 1) hx hb dL_law_418 (by decide) ?_
  refine xIadd C dL_law_419 ?_
  refine xSld C hX hbl hbA hS (show i + 1 < L by omega) (by omega) dL_law_420 ?_
  refine lv_aload_n hx hb dL_law_421 rfl (lv_at hl 1 rfl) ?_
  refine lv_iload_n hx hb dL_law_422 rfl (lv_at hl 0 rfl) ?_
  refine lv_iconst (v := nI 2) hx hb dL_law_423 (by decide) ?_
  refine xIadd C dL_law_424 ?_
  refine xSld C hX hbl hbA hS (show i + 2 < L by omega) (by omega) dL_law_425 ?_
  refine xLaw1 hP hD hS hA (va_runV (As := [.int (xs (i + 1)), .int (xs (i + 2))]) (rest := []) C (k4_act l D kA ox os ob ot S u1 hI h1 (xs (i + 1)) (xs (i + 2)) _) (cwV 2 hts gL_law_X4_act rfl rfl rfl (by decide +kernel) ⟨Nat.le_of_ble_eq_true rfl, Nat.le_of_ble_eq_true rfl⟩) (xPreVw (q0 := 0) hN (va_P1 hP) (va_Da hD) (fun _ h => Or.inr h) rfl hat1 rfl) rfl rfl hl.1 rfl (lv_room (Nat.le_of_ble_eq_true rfl)) dL_law_426 ⟨hcl, hsl⟩) (fun r1 v1 H locs hq1 hP hD hS => ?_)
  obtain ⟨e1, g1⟩ := hq1
  refine lv_aload_n hx hb dL_law_429 rfl (lv_at hl 3 rfl) ?_
  refine lv_aload_n hx hb dL_law_430 rfl (lv_at hl 1 rfl) ?_
  refine lv_iload_n hx hb dL_law_431 rfl (lv_at hl 0 rfl) ?_
  refine lv_iconst (v := nI 1) hx hb dL_law_432 (by decide) ?_
  refine xIadd C dL_law_433 ?_
  refine xSld C hX hbl hbA hS (show i + 1 < L by omega) (by omega) dL_law_434 ?_
  refine lv_aload_n hx hb dL_law_435 rfl (lv_at hl 1 rfl) ?_
  refine lv_iload_n hx hb dL_law_436 rfl (lv_at hl 0 rfl) ?_
  refine lv_iconst (v := nI 2) hx hb dL_law_437 (by decide) ?_
  refine xIadd C dL_law_438 ?_
  refine xSld C hX hbl hbA hS (show i + 2 < L by omega) (by omega) dL_law_439 ?_
  refine xLaw2 hP hD hS hA (va_runV (As := [.int (xs (i + 1)), .int (xs (i + 2))]) (rest := [.int r1]) C (k5_act l D kA a S u2 hI h2 (xs (i + 1)) (xs (i + 2)) _) (cwV 2 hts gL_law_X5_act rfl rfl rfl (by decide +kernel) ⟨Nat.le_of_ble_eq_true rfl, Nat.le_of_ble_eq_true rfl⟩) (xPreVw (q0 := 0) hN (va_P2 hP) (va_Db hD) (fun _ h => Or.inr h) rfl hat2 rfl) rfl rfl hl.1 rfl (lv_room (Nat.le_of_ble_eq_true rfl)) dL_law_440 ⟨hcl, hsl⟩) (fun r2 v2 H locs hq2 hP hD hS => ?_)
  obtain ⟨e2, g2⟩ := hq2
  refine lv_icmp_eq (tgt := 863) hx hb dL_law_443 (by decide) (fun _ => ?_) (fun h9 => absurd (e1.trans e2.symm) h9)
  refine W.widen (k := cells + 14) (n := slots + 212) (by omega) (by omega) ?_
  exact kk _ _ _ _ _ (i_act hI) g1 g2 hP hD hS
set_option maxHeartbeats 4000000 in
set_option maxRecDepth 100000 in
theorem law_rule {p : Program} {l : Launch} {e : Env} {s : State} {m : MethodId} {below : List Frame} {meth : Method} {c : Code} {H : Heap} {locs : List Loc} {cells slots : Nat} {Q : State → Prop} {ls : Array Slot} {D : va_G} {kA : Nat → ClassId} {b L i : Nat} {xs : Nat → Int32} {ox os ob ot a : Nat → Nat} {S : Sig} {u1 u2 : va_W} (C : CallFix p m c cL_law 4 s #[Value.ref b] wsL_law RL) (hN : KN D kA s) (hX : va_X b L xs s s.heap) (hbl : b < s.heap.size) (hi : i + 5 < L) (hL : L ≤ 3072) (hI : InvS S) (h1 : ClsR kA ox os ob ot S u1) (h2 : ModR kA a S u2) (hP : va_P D vwCl (u1 ++ u2) H) (hD : va_D (fun q : Nat => s.heap.size ≤ q) (u1 ++ u2)) (hS : va_S (fun q : Nat => s.heap.size ≤ q) s.heap H locs) (hl : lv_has ls 4 [(3, .int (nI i)), (0, .ref b), (1, .ref (ox 0)), (2, .ref (a 0))]) (hcl : cells + 14 ≤ 600000) (hsl : slots + 212 ≤ 7302250) (kk : ∀ (S2 : Sig) (v1 v2 : va_W) (H1 : Heap) (locs1 : List Loc), InvS S2 → ClsR kA ox os ob ot S2 v1 → ModR kA a S2 v2 → va_P D vwCl (v1 ++ v2) H1 → va_D (fun q : Nat => s.heap.size ≤ q) (v1 ++ v2) → va_S (fun q : Nat => s.heap.size ≤ q) s.heap H1 locs1 → W p l e room_1 s m #[Value.ref b] below meth c H1 locs1 (cells + 14) (slots + 212) Q (F0 m 863 ls [])) : W p l e room_1 s m #[Value.ref b] below meth c H locs cells slots Q (F0 m 448 ls []) := by
  obtain ⟨hx, hb, hml, hown, hts⟩ := id C
  have hA : ∀ q : Nat, s.heap.size ≤ q → (fun q : Nat => s.heap.size ≤ q) q := fun _ h => h
  have hbA : ¬ (fun q : Nat => s.heap.size ≤ q) b := Nat.not_le.mpr hbl
  obtain ⟨f1, hat1⟩ := cls_at h1
  obtain ⟨f2, hat2⟩ := mod_at h2
  refine lv_aload_n hx hb dL_law_448 rfl (lv_at hl 2 rfl) ?_
  refine lv_aload_n hx hb dL_law_449 rfl (lv_at hl 1 rfl) ?_
  refine lv_iload_n hx hb dL_law_450 rfl (lv_at hl 0 rfl) ?_
  refine lv_iconst (v := nI 1) hx hb dL_law_451 (by decide) ?_
  refine xIadd C dL_law_452 ?_
  refine xSld C hX hbl hbA hS (show i + 1 < L by omega) (by omega) dL_law_453 ?_
  refine lv_aload_n hx hb dL_law_454 rfl (lv_at hl 1 rfl) ?_
  refine lv_iload_n hx hb dL_law_455 rfl (lv_at hl 0 rfl) ?_
  refine lv_iconst (v := nI 2) hx hb dL_law_456 (by decide) ?_
  refine xIadd C dL_law_457 ?_
  refine xSld C hX hbl hbA hS (show i + 2 < L by omega) (by omega) dL_law_458 ?_
  refine xLaw1 hP hD hS hA (va_runV (As := [.int (xs (i + 1)), .int (xs (i + 2))]) (rest := []) C (k4_rule l D kA ox os ob ot S u1 hI h1 (xs (i + 1)) (xs (i + 2)) _) (cwV 2 hts gL_law_X4_rule rfl rfl rfl (by decide +kernel) ⟨Nat.le_of_ble_eq_true rfl, Nat.le_of_ble_eq_true rfl⟩) (xPreVw (q0 := 0) hN (va_P1 hP) (va_Da hD) (fun _ h => Or.inr h) rfl hat1 rfl) rfl rfl hl.1 rfl (lv_room (Nat.le_of_ble_eq_true rfl)) dL_law_459 ⟨(Nat.le_trans (Nat.le_add_right _ 14) hcl), (Nat.le_trans (Nat.le_add_right _ 212) hsl)⟩) (fun r1 v1 H locs hq1 hP hD hS => ?_)
  obtain ⟨e1, g1⟩ := hq1
  refine lv_aload_n hx hb dL_law_462 rfl (lv_at hl 3 rfl) ?_
  refine lv_aload_n hx hb dL_law_463 rfl (lv_at hl 1 rfl) ?_
  refine lv_iload_n hx hb dL_law_464 rfl (lv_at hl 0 rfl) ?_
  refine lv_iconst (v := nI 1) hx hb dL_law_465 (by decide) ?_
  refine xIadd C dL_law_466 ?_
  refine xSld C hX hbl hbA hS (show i + 1 < L by omega) (by omega) dL_law_467 ?_
  refine lv_aload_n hx hb dL_law_468 rfl (lv_at hl 1 rfl) ?_
  refine lv_iload_n hx hb dL_law_469 rfl (lv_at hl 0 rfl) ?_
  refine lv_iconst (v := nI 2) hx hb dL_law_470 (by decide) ?_
  refine xIadd C dL_law_471 ?_
  refine xSld C hX hbl hbA hS (show i + 2 < L by omega) (by omega) dL_law_472 ?_
  refine xLaw2 hP hD hS hA (va_runV (As := [.int (xs (i + 1)), .int (xs (i + 2))]) (rest := [.int r1]) C (k5_rule l D kA a S u2 hI h2 (xs (i + 1)) (xs (i + 2)) _) (cwV 2 hts gL_law_X5_rule rfl rfl rfl (by decide +kernel) ⟨Nat.le_of_ble_eq_true rfl, Nat.le_of_ble_eq_true rfl⟩) (xPreVw (q0 := 0) hN (va_P2 hP) (va_Db hD) (fun _ h => Or.inr h) rfl hat2 rfl) rfl rfl hl.1 rfl (lv_room (Nat.le_of_ble_eq_true rfl)) dL_law_473 ⟨(Nat.le_trans (Nat.le_add_right _ 14) hcl), (Nat.le_trans (Nat.le_add_right _ 212) hsl)⟩) (fun r2 v2 H locs hq2 hP hD hS => ?_)
  obtain ⟨e2, g2⟩ := hq2
  refine lv_icmp_eq (tgt := 863) hx hb dL_law_476 (by decide) (fun _ => ?_) (fun h9 => absurd (e1.trans e2.symm) h9)
  refine W.widen (k := cells + 14) (n := slots + 212) (by omega) (by omega) ?_
  exact kk _ _ _ _ _ (i_rule hI) g1 g2 hP hD hS
set_option maxHeartbeats 4000000 in
set_option maxRecDepth 100000 in
theorem law_member {p : Program} {l : Launch} {e : Env} {s : State} {m : MethodId} {below : List Frame} {meth : Method} {c : Code} {H : Heap} {locs : List Loc} {cells slots : Nat} {Q : State → Prop} {ls : Array Slot} {D : va_G} {kA : Nat → ClassId} {b L i : Nat} {xs : Nat → Int32} {ox os ob ot a : Nat → Nat} {S : Sig} {u1 u2 : va_W} (C : CallFix p m c cL_law 4 s #[Value.ref b] wsL_law RL) (hN : KN D kA s) (hX : va_X b L xs s s.heap) (hbl : b < s.heap.size) (hi : i + 5 < L) (hL : L ≤ 3072) (hI : InvS S) (h1 : ClsR kA ox os ob ot S u1) (h2 : ModR kA a S u2) (hP : va_P D vwCl (u1 ++ u2) H) (hD : va_D (fun q : Nat => s.heap.size ≤ q) (u1 ++ u2)) (hS : va_S (fun q : Nat => s.heap.size ≤ q) s.heap H locs) (hl : lv_has ls 4 [(3, .int (nI i)), (0, .ref b), (1, .ref (ox 0)), (2, .ref (a 0))]) (hcl : cells + 14 ≤ 600000) (hsl : slots + 212 ≤ 7302250) (kk : ∀ (S2 : Sig) (v1 v2 : va_W) (H1 : Heap) (locs1 : List Loc), InvS S2 → ClsR kA ox os ob ot S2 v1 → ModR kA a S2 v2 → va_P D vwCl (v1 ++ v2) H1 → va_D (fun q : Nat => s.heap.size ≤ q) (v1 ++ v2) → va_S (fun q : Nat => s.heap.size ≤ q) s.heap H1 locs1 → W p l e room_1 s m #[Value.ref b] below meth c H1 locs1 (cells + 14) (slots + 212) Q (F0 m 863 ls [])) : W p l e room_1 s m #[Value.ref b] below meth c H locs cells slots Q (F0 m 481 ls []) := by
  obtain ⟨hx, hb, hml, hown, hts⟩ := id C
  have hA : ∀ q : Nat, s.heap.size ≤ q → (fun q : Nat => s.heap.size ≤ q) q := fun _ h => h
  have hbA : ¬ (fun q : Nat => s.heap.size ≤ q) b := Nat.not_le.mpr hbl
  obtain ⟨f1, hat1⟩ := cls_at h1
  obtain ⟨f2, hat2⟩ := mod_at h2
  refine lv_aload_n hx hb dL_law_481 rfl (lv_at hl 2 rfl) ?_
  refine lv_aload_n hx hb dL_law_482 rfl (lv_at hl 1 rfl) ?_
  refine lv_iload_n hx hb dL_law_483 rfl (lv_at hl 0 rfl) ?_
  refine lv_iconst (v := nI 1) hx hb dL_law_484 (by decide) ?_
  refine xIadd C dL_law_485 ?_
  refine xSld C hX hbl hbA hS (show i + 1 < L by omega) (by omega) dL_law_486 ?_
  refine lv_aload_n hx hb dL_law_487 rfl (lv_at hl 1 rfl) ?_
  refine lv_iload_n hx hb dL_law_488 rfl (lv_at hl 0 rfl) ?_
  refine lv_iconst (v := nI 2) hx hb dL_law_489 (by decide) ?_
  refine xIadd C dL_law_490 ?_
  refine xSld C hX hbl hbA hS (show i + 2 < L by omega) (by omega) dL_law_491 ?_
  refine xLaw1 hP hD hS hA (va_runV (As := [.int (xs (i + 1)), .int (xs (i + 2))]) (rest := []) C (k4_member l D kA ox os ob ot S u1 hI h1 (xs (i + 1)) (xs (i + 2)) _) (cwV 2 hts gL_law_X4_member rfl rfl rfl (by decide +kernel) ⟨Nat.le_of_ble_eq_true rfl, Nat.le_of_ble_eq_true rfl⟩) (xPreVw (q0 := 0) hN (va_P1 hP) (va_Da hD) (fun _ h => Or.inr h) rfl hat1 rfl) rfl rfl hl.1 rfl (lv_room (Nat.le_of_ble_eq_true rfl)) dL_law_492 ⟨(Nat.le_trans (Nat.le_add_right _ 14) hcl), (Nat.le_trans (Nat.le_add_right _ 212) hsl)⟩) (fun r1 v1 H locs hq1 hP hD hS => ?_)
  obtain ⟨e1, g1⟩ := hq1
  refine lv_aload_n hx hb dL_law_495 rfl (lv_at hl 3 rfl) ?_
  refine lv_aload_n hx hb dL_law_496 rfl (lv_at hl 1 rfl) ?_
  refine lv_iload_n hx hb dL_law_497 rfl (lv_at hl 0 rfl) ?_
  refine lv_iconst (v := nI 1) hx hb dL_law_498 (by decide) ?_
  refine xIadd C dL_law_499 ?_
  refine xSld C hX hbl hbA hS (show i + 1 < L by omega) (by omega) dL_law_500 ?_
  refine lv_aload_n hx hb dL_law_501 rfl (lv_at hl 1 rfl) ?_
  refine lv_iload_n hx hb dL_law_502 rfl (lv_at hl 0 rfl) ?_
  refine lv_iconst (v := nI 2) hx hb dL_law_503 (by decide) ?_
  refine xIadd C dL_law_504 ?_
  refine xSld C hX hbl hbA hS (show i + 2 < L by omega) (by omega) dL_law_505 ?_
  refine xLaw2 hP hD hS hA (va_runV (As := [.int (xs (i + 1)), .int (xs (i + 2))]) (rest := [.int r1]) C (k5_member l D kA a S u2 hI h2 (xs (i + 1)) (xs (i + 2)) _) (cwV 2 hts gL_law_X5_member rfl rfl rfl (by decide +kernel) ⟨Nat.le_of_ble_eq_true rfl, Nat.le_of_ble_eq_true rfl⟩) (xPreVw (q0 := 0) hN (va_P2 hP) (va_Db hD) (fun _ h => Or.inr h) rfl hat2 rfl) rfl rfl hl.1 rfl (lv_room (Nat.le_of_ble_eq_true rfl)) dL_law_506 ⟨(Nat.le_trans (Nat.le_add_right _ 14) hcl), (Nat.le_trans (Nat.le_add_right _ 212) hsl)⟩) (fun r2 v2 H locs hq2 hP hD hS => ?_)
  obtain ⟨e2, g2⟩ := hq2
  refine lv_icmp_eq (tgt := 863) hx hb dL_law_509 (by decide) (fun _ => ?_) (fun h9 => absurd (e1.trans e2.symm) h9)
  refine W.widen (k := cells + 14) (n := slots + 212) (by omega) (by omega) ?_
  exact kk _ _ _ _ _ (i_member hI) g1 g2 hP hD hS
set_option maxHeartbeats 4000000 in
set_option maxRecDepth 100000 in
theorem law_allowed {p : Program} {l : Launch} {e : Env} {s : State} {m : MethodId} {below : List Frame} {meth : Method} {c : Code} {H : Heap} {locs : List Loc} {cells slots : Nat} {Q : State → Prop} {ls : Array Slot} {D : va_G} {kA : Nat → ClassId} {b L i : Nat} {xs : Nat → Int32} {ox os ob ot a : Nat → Nat} {S : Sig} {u1 u2 : va_W} (C : CallFix p m c cL_law 4 s #[Value.ref b] wsL_law RL) (hN : KN D kA s) (hX : va_X b L xs s s.heap) (hbl : b < s.heap.size) (hi : i + 5 < L) (hL : L ≤ 3072) (hI : InvS S) (h1 : ClsR kA ox os ob ot S u1) (h2 : ModR kA a S u2) (hP : va_P D vwCl (u1 ++ u2) H) (hD : va_D (fun q : Nat => s.heap.size ≤ q) (u1 ++ u2)) (hS : va_S (fun q : Nat => s.heap.size ≤ q) s.heap H locs) (hl : lv_has ls 4 [(3, .int (nI i)), (0, .ref b), (1, .ref (ox 0)), (2, .ref (a 0))]) (hcl : cells + 14 ≤ 600000) (hsl : slots + 212 ≤ 7302250) (kk : ∀ (S2 : Sig) (v1 v2 : va_W) (H1 : Heap) (locs1 : List Loc), InvS S2 → ClsR kA ox os ob ot S2 v1 → ModR kA a S2 v2 → va_P D vwCl (v1 ++ v2) H1 → va_D (fun q : Nat => s.heap.size ≤ q) (v1 ++ v2) → va_S (fun q : Nat => s.heap.size ≤ q) s.heap H1 locs1 → W p l e room_1 s m #[Value.ref b] below meth c H1 locs1 (cells + 14) (slots + 212) Q (F0 m 863 ls [])) : W p l e room_1 s m #[Value.ref b] below meth c H locs cells slots Q (F0 m 514 ls []) := by
  obtain ⟨hx, hb, hml, hown, hts⟩ := id C
  have hA : ∀ q : Nat, s.heap.size ≤ q → (fun q : Nat => s.heap.size ≤ q) q := fun _ h => h
  have hbA : ¬ (fun q : Nat => s.heap.size ≤ q) b := Nat.not_le.mpr hbl
  obtain ⟨f1, hat1⟩ := cls_at h1
  obtain ⟨f2, hat2⟩ := mod_at h2
  refine lv_aload_n hx hb dL_law_514 rfl (lv_at hl 2 rfl) ?_
  refine lv_aload_n hx hb dL_law_515 rfl (lv_at hl 1 rfl) ?_
  refine lv_iload_n hx hb dL_law_516 rfl (lv_at hl 0 rfl) ?_
  refine lv_iconst (v := nI 1) hx hb dL_law_517 (by decide) ?_
  refine xIadd C dL_law_518 ?_
  refine xSld C hX hbl hbA hS (show i + 1 < L by omega) (by omega) dL_law_519 ?_
  refine lv_aload_n hx hb dL_law_520 rfl (lv_at hl 1 rfl) ?_
  refine lv_iload_n hx hb dL_law_521 rfl (lv_at hl 0 rfl) ?_
  refine lv_iconst (v := nI 2) hx hb dL_law_522 (by decide) ?_
  refine xIadd C dL_law_523 ?_
  refine xSld C hX hbl hbA hS (show i + 2 < L by omega) (by omega) dL_law_524 ?_
  refine lv_aload_n hx hb dL_law_525 rfl (lv_at hl 1 rfl) ?_
  refine lv_iload_n hx hb dL_law_526 rfl (lv_at hl 0 rfl) ?_
  refine lv_iconst (v := nI 3) hx hb dL_law_527 (by decide) ?_
  refine xIadd C dL_law_528 ?_
  refine xSld C hX hbl hbA hS (show i + 3 < L by omega) (by omega) dL_law_529 ?_
  refine lv_aload_n hx hb dL_law_530 rfl (lv_at hl 1 rfl) ?_
  refine lv_iload_n hx hb dL_law_531 rfl (lv_at hl 0 rfl) ?_
  refine lv_iconst (v := nI 4) hx hb dL_law_532 (by decide) ?_
  refine xIadd C dL_law_533 ?_
  refine xSld C hX hbl hbA hS (show i + 4 < L by omega) (by omega) dL_law_534 ?_
  refine xLaw1 hP hD hS hA (va_runV (As := [.int (xs (i + 1)), .int (xs (i + 2)), .int (xs (i + 3)), .int (xs (i + 4))]) (rest := []) C (k4_allowed l D kA ox os ob ot S u1 hI h1 (xs (i + 1)) (xs (i + 2)) (xs (i + 3)) (xs (i + 4)) _) (cwV 4 hts gL_law_X4_allowed rfl rfl rfl (by decide +kernel) ⟨Nat.le_of_ble_eq_true rfl, Nat.le_of_ble_eq_true rfl⟩) (xPreVw (q0 := 0) hN (va_P1 hP) (va_Da hD) (fun _ h => Or.inr h) rfl hat1 rfl) rfl rfl hl.1 rfl (lv_room (Nat.le_of_ble_eq_true rfl)) dL_law_535 ⟨(Nat.le_trans (Nat.le_add_right _ 14) hcl), (Nat.le_trans (Nat.le_add_right _ 212) hsl)⟩) (fun r1 v1 H locs hq1 hP hD hS => ?_)
  obtain ⟨e1, g1⟩ := hq1
  refine lv_aload_n hx hb dL_law_538 rfl (lv_at hl 3 rfl) ?_
  refine lv_aload_n hx hb dL_law_539 rfl (lv_at hl 1 rfl) ?_
  refine lv_iload_n hx hb dL_law_540 rfl (lv_at hl 0 rfl) ?_
  refine lv_iconst (v := nI 1) hx hb dL_law_541 (by decide) ?_
  refine xIadd C dL_law_542 ?_
  refine xSld C hX hbl hbA hS (show i + 1 < L by omega) (by omega) dL_law_543 ?_
  refine lv_aload_n hx hb dL_law_544 rfl (lv_at hl 1 rfl) ?_
  refine lv_iload_n hx hb dL_law_545 rfl (lv_at hl 0 rfl) ?_
  refine lv_iconst (v := nI 2) hx hb dL_law_546 (by decide) ?_
  refine xIadd C dL_law_547 ?_
  refine xSld C hX hbl hbA hS (show i + 2 < L by omega) (by omega) dL_law_548 ?_
  refine lv_aload_n hx hb dL_law_549 rfl (lv_at hl 1 rfl) ?_
  refine lv_iload_n hx hb dL_law_550 rfl (lv_at hl 0 rfl) ?_
  refine lv_iconst (v := nI 3) hx hb dL_law_551 (by decide) ?_
  refine xIadd C dL_law_552 ?_
  refine xSld C hX hbl hbA hS (show i + 3 < L by omega) (by omega) dL_law_553 ?_
  refine lv_aload_n hx hb dL_law_554 rfl (lv_at hl 1 rfl) ?_
  refine lv_iload_n hx hb dL_law_555 rfl (lv_at hl 0 rfl) ?_
  refine lv_iconst (v := nI 4) hx hb dL_law_556 (by decide) ?_
  refine xIadd C dL_law_557 ?_
  refine xSld C hX hbl hbA hS (show i + 4 < L by omega) (by omega) dL_law_558 ?_
  refine xLaw2 hP hD hS hA (va_runV (As := [.int (xs (i + 1)), .int (xs (i + 2)), .int (xs (i + 3)), .int (xs (i + 4))]) (rest := [.int r1]) C (k5_allowed l D kA a S u2 hI h2 (xs (i + 1)) (xs (i + 2)) (xs (i + 3)) (xs (i + 4)) _) (cwV 4 hts gL_law_X5_allowed rfl rfl rfl (by decide +kernel) ⟨Nat.le_of_ble_eq_true rfl, Nat.le_of_ble_eq_true rfl⟩) (xPreVw (q0 := 0) hN (va_P2 hP) (va_Db hD) (fun _ h => Or.inr h) rfl hat2 rfl) rfl rfl hl.1 rfl (lv_room (Nat.le_of_ble_eq_true rfl)) dL_law_559 ⟨(Nat.le_trans (Nat.le_add_right _ 14) hcl), (Nat.le_trans (Nat.le_add_right _ 212) hsl)⟩) (fun r2 v2 H locs hq2 hP hD hS => ?_)
  obtain ⟨e2, g2⟩ := hq2
  refine lv_icmp_eq (tgt := 863) hx hb dL_law_562 (by decide) (fun _ => ?_) (fun h9 => absurd (e1.trans e2.symm) h9)
  refine W.widen (k := cells + 14) (n := slots + 212) (by omega) (by omega) ?_
  exact kk _ _ _ _ _ (i_allowed hI) g1 g2 hP hD hS
set_option maxHeartbeats 4000000 in
set_option maxRecDepth 100000 in
theorem law_why {p : Program} {l : Launch} {e : Env} {s : State} {m : MethodId} {below : List Frame} {meth : Method} {c : Code} {H : Heap} {locs : List Loc} {cells slots : Nat} {Q : State → Prop} {ls : Array Slot} {D : va_G} {kA : Nat → ClassId} {b L i : Nat} {xs : Nat → Int32} {ox os ob ot a : Nat → Nat} {S : Sig} {u1 u2 : va_W} (C : CallFix p m c cL_law 4 s #[Value.ref b] wsL_law RL) (hN : KN D kA s) (hX : va_X b L xs s s.heap) (hbl : b < s.heap.size) (hi : i + 5 < L) (hL : L ≤ 3072) (hI : InvS S) (h1 : ClsR kA ox os ob ot S u1) (h2 : ModR kA a S u2) (hP : va_P D vwCl (u1 ++ u2) H) (hD : va_D (fun q : Nat => s.heap.size ≤ q) (u1 ++ u2)) (hS : va_S (fun q : Nat => s.heap.size ≤ q) s.heap H locs) (hl : lv_has ls 4 [(3, .int (nI i)), (0, .ref b), (1, .ref (ox 0)), (2, .ref (a 0))]) (hcl : cells + 14 ≤ 600000) (hsl : slots + 212 ≤ 7302250) (kk : ∀ (S2 : Sig) (v1 v2 : va_W) (H1 : Heap) (locs1 : List Loc), InvS S2 → ClsR kA ox os ob ot S2 v1 → ModR kA a S2 v2 → va_P D vwCl (v1 ++ v2) H1 → va_D (fun q : Nat => s.heap.size ≤ q) (v1 ++ v2) → va_S (fun q : Nat => s.heap.size ≤ q) s.heap H1 locs1 → W p l e room_1 s m #[Value.ref b] below meth c H1 locs1 (cells + 14) (slots + 212) Q (F0 m 863 ls [])) : W p l e room_1 s m #[Value.ref b] below meth c H locs cells slots Q (F0 m 567 ls []) := by
  obtain ⟨hx, hb, hml, hown, hts⟩ := id C
  have hA : ∀ q : Nat, s.heap.size ≤ q → (fun q : Nat => s.heap.size ≤ q) q := fun _ h => h
  have hbA : ¬ (fun q : Nat => s.heap.size ≤ q) b := Nat.not_le.mpr hbl
  obtain ⟨f1, hat1⟩ := cls_at h1
  obtain ⟨f2, hat2⟩ := mod_at h2
  refine lv_aload_n hx hb dL_law_567 rfl (lv_at hl 2 rfl) ?_
  refine lv_aload_n hx hb dL_law_568 rfl (lv_at hl 1 rfl) ?_
  refine lv_iload_n hx hb dL_law_569 rfl (lv_at hl 0 rfl) ?_
  refine lv_iconst (v := nI 1) hx hb dL_law_570 (by decide) ?_
  refine xIadd C dL_law_571 ?_
  refine xSld C hX hbl hbA hS (show i + 1 < L by omega) (by omega) dL_law_572 ?_
  refine lv_aload_n hx hb dL_law_573 rfl (lv_at hl 1 rfl) ?_
  refine lv_iload_n hx hb dL_law_574 rfl (lv_at hl 0 rfl) ?_
  refine lv_iconst (v := nI 2) hx hb dL_law_575 (by decide) ?_
  refine xIadd C dL_law_576 ?_
  refine xSld C hX hbl hbA hS (show i + 2 < L by omega) (by omega) dL_law_577 ?_
  refine lv_aload_n hx hb dL_law_578 rfl (lv_at hl 1 rfl) ?_
  refine lv_iload_n hx hb dL_law_579 rfl (lv_at hl 0 rfl) ?_
  refine lv_iconst (v := nI 3) hx hb dL_law_580 (by decide) ?_
  refine xIadd C dL_law_581 ?_
  refine xSld C hX hbl hbA hS (show i + 3 < L by omega) (by omega) dL_law_582 ?_
  refine xLaw1 hP hD hS hA (va_runV (As := [.int (xs (i + 1)), .int (xs (i + 2)), .int (xs (i + 3))]) (rest := []) C (k4_why l D kA ox os ob ot S u1 hI h1 (xs (i + 1)) (xs (i + 2)) (xs (i + 3)) _) (cwV 3 hts gL_law_X4_why rfl rfl rfl (by decide +kernel) ⟨Nat.le_of_ble_eq_true rfl, Nat.le_of_ble_eq_true rfl⟩) (xPreVw (q0 := 0) hN (va_P1 hP) (va_Da hD) (fun _ h => Or.inr h) rfl hat1 rfl) rfl rfl hl.1 rfl (lv_room (Nat.le_of_ble_eq_true rfl)) dL_law_583 ⟨(Nat.le_trans (Nat.le_add_right _ 14) hcl), (Nat.le_trans (Nat.le_add_right _ 212) hsl)⟩) (fun r1 v1 H locs hq1 hP hD hS => ?_)
  obtain ⟨e1, g1⟩ := hq1
  refine lv_aload_n hx hb dL_law_586 rfl (lv_at hl 3 rfl) ?_
  refine lv_aload_n hx hb dL_law_587 rfl (lv_at hl 1 rfl) ?_
  refine lv_iload_n hx hb dL_law_588 rfl (lv_at hl 0 rfl) ?_
  refine lv_iconst (v := nI 1) hx hb dL_law_589 (by decide) ?_
  refine xIadd C dL_law_590 ?_
  refine xSld C hX hbl hbA hS (show i + 1 < L by omega) (by omega) dL_law_591 ?_
  refine lv_aload_n hx hb dL_law_592 rfl (lv_at hl 1 rfl) ?_
  refine lv_iload_n hx hb dL_law_593 rfl (lv_at hl 0 rfl) ?_
  refine lv_iconst (v := nI 2) hx hb dL_law_594 (by decide) ?_
  refine xIadd C dL_law_595 ?_
  refine xSld C hX hbl hbA hS (show i + 2 < L by omega) (by omega) dL_law_596 ?_
  refine lv_aload_n hx hb dL_law_597 rfl (lv_at hl 1 rfl) ?_
  refine lv_iload_n hx hb dL_law_598 rfl (lv_at hl 0 rfl) ?_
  refine lv_iconst (v := nI 3) hx hb dL_law_599 (by decide) ?_
  refine xIadd C dL_law_600 ?_
  refine xSld C hX hbl hbA hS (show i + 3 < L by omega) (by omega) dL_law_601 ?_
  refine xLaw2 hP hD hS hA (va_runV (As := [.int (xs (i + 1)), .int (xs (i + 2)), .int (xs (i + 3))]) (rest := [.int r1]) C (k5_why l D kA a S u2 hI h2 (xs (i + 1)) (xs (i + 2)) (xs (i + 3)) _) (cwV 3 hts gL_law_X5_why rfl rfl rfl (by decide +kernel) ⟨Nat.le_of_ble_eq_true rfl, Nat.le_of_ble_eq_true rfl⟩) (xPreVw (q0 := 0) hN (va_P2 hP) (va_Db hD) (fun _ h => Or.inr h) rfl hat2 rfl) rfl rfl hl.1 rfl (lv_room (Nat.le_of_ble_eq_true rfl)) dL_law_602 ⟨(Nat.le_trans (Nat.le_add_right _ 14) hcl), (Nat.le_trans (Nat.le_add_right _ 212) hsl)⟩) (fun r2 v2 H locs hq2 hP hD hS => ?_)
  obtain ⟨e2, g2⟩ := hq2
  refine lv_icmp_eq (tgt := 863) hx hb dL_law_605 (by decide) (fun _ => ?_) (fun h9 => absurd (e1.trans e2.symm) h9)
  refine W.widen (k := cells + 14) (n := slots + 212) (by omega) (by omega) ?_
  exact kk _ _ _ _ _ (i_why hI) g1 g2 hP hD hS
set_option maxHeartbeats 4000000 in
set_option maxRecDepth 100000 in
theorem law_count {p : Program} {l : Launch} {e : Env} {s : State} {m : MethodId} {below : List Frame} {meth : Method} {c : Code} {H : Heap} {locs : List Loc} {cells slots : Nat} {Q : State → Prop} {ls : Array Slot} {D : va_G} {kA : Nat → ClassId} {b L i : Nat} {xs : Nat → Int32} {ox os ob ot a : Nat → Nat} {S : Sig} {u1 u2 : va_W} (C : CallFix p m c cL_law 4 s #[Value.ref b] wsL_law RL) (hN : KN D kA s) (hX : va_X b L xs s s.heap) (hbl : b < s.heap.size) (hi : i + 5 < L) (hL : L ≤ 3072) (hI : InvS S) (h1 : ClsR kA ox os ob ot S u1) (h2 : ModR kA a S u2) (hP : va_P D vwCl (u1 ++ u2) H) (hD : va_D (fun q : Nat => s.heap.size ≤ q) (u1 ++ u2)) (hS : va_S (fun q : Nat => s.heap.size ≤ q) s.heap H locs) (hl : lv_has ls 4 [(3, .int (nI i)), (0, .ref b), (1, .ref (ox 0)), (2, .ref (a 0))]) (hcl : cells + 14 ≤ 600000) (hsl : slots + 212 ≤ 7302250) (kk : ∀ (S2 : Sig) (v1 v2 : va_W) (H1 : Heap) (locs1 : List Loc), InvS S2 → ClsR kA ox os ob ot S2 v1 → ModR kA a S2 v2 → va_P D vwCl (v1 ++ v2) H1 → va_D (fun q : Nat => s.heap.size ≤ q) (v1 ++ v2) → va_S (fun q : Nat => s.heap.size ≤ q) s.heap H1 locs1 → W p l e room_1 s m #[Value.ref b] below meth c H1 locs1 (cells + 14) (slots + 212) Q (F0 m 863 ls [])) : W p l e room_1 s m #[Value.ref b] below meth c H locs cells slots Q (F0 m 610 ls []) := by
  obtain ⟨hx, hb, hml, hown, hts⟩ := id C
  have hA : ∀ q : Nat, s.heap.size ≤ q → (fun q : Nat => s.heap.size ≤ q) q := fun _ h => h
  have hbA : ¬ (fun q : Nat => s.heap.size ≤ q) b := Nat.not_le.mpr hbl
  obtain ⟨f1, hat1⟩ := cls_at h1
  obtain ⟨f2, hat2⟩ := mod_at h2
  refine lv_aload_n hx hb dL_law_610 rfl (lv_at hl 2 rfl) ?_
  refine lv_aload_n hx hb dL_law_611 rfl (lv_at hl 1 rfl) ?_
  refine lv_iload_n hx hb dL_law_612 rfl (lv_at hl 0 rfl) ?_
  refine lv_iconst (v := nI 1) hx hb dL_law_613 (by decide) ?_
  refine xIadd C dL_law_614 ?_
  refine xSld C hX hbl hbA hS (show i + 1 < L by omega) (by omega) dL_law_615 ?_
  refine xLaw1 hP hD hS hA (va_runV (As := [.int (xs (i + 1))]) (rest := []) C (k4_count l D kA ox os ob ot S u1 hI h1 (xs (i + 1)) _) (cwV 1 hts gL_law_X4_count rfl rfl rfl (by decide +kernel) ⟨Nat.le_of_ble_eq_true rfl, Nat.le_of_ble_eq_true rfl⟩) (xPreVw (q0 := 0) hN (va_P1 hP) (va_Da hD) (fun _ h => Or.inr h) rfl hat1 rfl) rfl rfl hl.1 rfl (lv_room (Nat.le_of_ble_eq_true rfl)) dL_law_616 ⟨(Nat.le_trans (Nat.le_add_right _ 14) hcl), (Nat.le_trans (Nat.le_add_right _ 212) hsl)⟩) (fun r1 v1 H locs hq1 hP hD hS => ?_)
  obtain ⟨e1, g1⟩ := hq1
  refine lv_aload_n hx hb dL_law_619 rfl (lv_at hl 3 rfl) ?_
  refine lv_aload_n hx hb dL_law_620 rfl (lv_at hl 1 rfl) ?_
  refine lv_iload_n hx hb dL_law_621 rfl (lv_at hl 0 rfl) ?_
  refine lv_iconst (v := nI 1) hx hb dL_law_622 (by decide) ?_
  refine xIadd C dL_law_623 ?_
  refine xSld C hX hbl hbA hS (show i + 1 < L by omega) (by omega) dL_law_624 ?_
  refine xLaw2 hP hD hS hA (va_runV (As := [.int (xs (i + 1))]) (rest := [.int r1]) C (k5_count l D kA a S u2 hI h2 (xs (i + 1)) _) (cwV 1 hts gL_law_X5_count rfl rfl rfl (by decide +kernel) ⟨Nat.le_of_ble_eq_true rfl, Nat.le_of_ble_eq_true rfl⟩) (xPreVw (q0 := 0) hN (va_P2 hP) (va_Db hD) (fun _ h => Or.inr h) rfl hat2 rfl) rfl rfl hl.1 rfl (lv_room (Nat.le_of_ble_eq_true rfl)) dL_law_625 ⟨(Nat.le_trans (Nat.le_add_right _ 14) hcl), (Nat.le_trans (Nat.le_add_right _ 212) hsl)⟩) (fun r2 v2 H locs hq2 hP hD hS => ?_)
  obtain ⟨e2, g2⟩ := hq2
  refine lv_icmp_eq (tgt := 863) hx hb dL_law_628 (by decide) (fun _ => ?_) (fun h9 => absurd (e1.trans e2.symm) h9)
  refine W.widen (k := cells + 14) (n := slots + 212) (by omega) (by omega) ?_
  exact kk _ _ _ _ _ (i_count hI) g1 g2 hP hD hS
set_option maxHeartbeats 4000000 in
set_option maxRecDepth 100000 in
theorem law_leastRank {p : Program} {l : Launch} {e : Env} {s : State} {m : MethodId} {below : List Frame} {meth : Method} {c : Code} {H : Heap} {locs : List Loc} {cells slots : Nat} {Q : State → Prop} {ls : Array Slot} {D : va_G} {kA : Nat → ClassId} {b L i : Nat} {xs : Nat → Int32} {ox os ob ot a : Nat → Nat} {S : Sig} {u1 u2 : va_W} (C : CallFix p m c cL_law 4 s #[Value.ref b] wsL_law RL) (hN : KN D kA s) (hX : va_X b L xs s s.heap) (hbl : b < s.heap.size) (hi : i + 5 < L) (hL : L ≤ 3072) (hI : InvS S) (h1 : ClsR kA ox os ob ot S u1) (h2 : ModR kA a S u2) (hP : va_P D vwCl (u1 ++ u2) H) (hD : va_D (fun q : Nat => s.heap.size ≤ q) (u1 ++ u2)) (hS : va_S (fun q : Nat => s.heap.size ≤ q) s.heap H locs) (hl : lv_has ls 4 [(3, .int (nI i)), (0, .ref b), (1, .ref (ox 0)), (2, .ref (a 0))]) (hcl : cells + 14 ≤ 600000) (hsl : slots + 212 ≤ 7302250) (kk : ∀ (S2 : Sig) (v1 v2 : va_W) (H1 : Heap) (locs1 : List Loc), InvS S2 → ClsR kA ox os ob ot S2 v1 → ModR kA a S2 v2 → va_P D vwCl (v1 ++ v2) H1 → va_D (fun q : Nat => s.heap.size ≤ q) (v1 ++ v2) → va_S (fun q : Nat => s.heap.size ≤ q) s.heap H1 locs1 → W p l e room_1 s m #[Value.ref b] below meth c H1 locs1 (cells + 14) (slots + 212) Q (F0 m 863 ls [])) : W p l e room_1 s m #[Value.ref b] below meth c H locs cells slots Q (F0 m 633 ls []) := by
  obtain ⟨hx, hb, hml, hown, hts⟩ := id C
  have hA : ∀ q : Nat, s.heap.size ≤ q → (fun q : Nat => s.heap.size ≤ q) q := fun _ h => h
  have hbA : ¬ (fun q : Nat => s.heap.size ≤ q) b := Nat.not_le.mpr hbl
  obtain ⟨f1, hat1⟩ := cls_at h1
  obtain ⟨f2, hat2⟩ := mod_at h2
  refine lv_aload_n hx hb dL_law_633 rfl (lv_at hl 2 rfl) ?_
  refine lv_aload_n hx hb dL_law_634 rfl (lv_at hl 1 rfl) ?_
  refine lv_iload_n hx hb dL_law_635 rfl (lv_at hl 0 rfl) ?_
  refine lv_iconst (v := nI 1) hx hb dL_law_636 (by decide) ?_
  refine xIadd C dL_law_637 ?_
  refine xSld C hX hbl hbA hS (show i + 1 < L by omega) (by omega) dL_law_638 ?_
  refine lv_aload_n hx hb dL_law_639 rfl (lv_at hl 1 rfl) ?_
  refine lv_iload_n hx hb dL_law_640 rfl (lv_at hl 0 rfl) ?_
  refine lv_iconst (v := nI 2) hx hb dL_law_641 (by decide) ?_
  refine xIadd C dL_law_642 ?_
  refine xSld C hX hbl hbA hS (show i + 2 < L by omega) (by omega) dL_law_643 ?_
  refine xLaw1 hP hD hS hA (va_runV (As := [.int (xs (i + 1)), .int (xs (i + 2))]) (rest := []) C (k4_leastRank l D kA ox os ob ot S u1 hI h1 (xs (i + 1)) (xs (i + 2)) _) (cwV 2 hts gL_law_X4_leastRank rfl rfl rfl (by decide +kernel) ⟨Nat.le_of_ble_eq_true rfl, Nat.le_of_ble_eq_true rfl⟩) (xPreVw (q0 := 0) hN (va_P1 hP) (va_Da hD) (fun _ h => Or.inr h) rfl hat1 rfl) rfl rfl hl.1 rfl (lv_room (Nat.le_of_ble_eq_true rfl)) dL_law_644 ⟨(Nat.le_trans (Nat.le_add_right _ 14) hcl), (Nat.le_trans (Nat.le_add_right _ 212) hsl)⟩) (fun r1 v1 H locs hq1 hP hD hS => ?_)
  obtain ⟨e1, g1⟩ := hq1
  refine lv_aload_n hx hb dL_law_647 rfl (lv_at hl 3 rfl) ?_
  refine lv_aload_n hx hb dL_law_648 rfl (lv_at hl 1 rfl) ?_
  refine lv_iload_n hx hb dL_law_649 rfl (lv_at hl 0 rfl) ?_
  refine lv_iconst (v := nI 1) hx hb dL_law_650 (by decide) ?_
  refine xIadd C dL_law_651 ?_
  refine xSld C hX hbl hbA hS (show i + 1 < L by omega) (by omega) dL_law_652 ?_
  refine lv_aload_n hx hb dL_law_653 rfl (lv_at hl 1 rfl) ?_
  refine lv_iload_n hx hb dL_law_654 rfl (lv_at hl 0 rfl) ?_
  refine lv_iconst (v := nI 2) hx hb dL_law_655 (by decide) ?_
  refine xIadd C dL_law_656 ?_
  refine xSld C hX hbl hbA hS (show i + 2 < L by omega) (by omega) dL_law_657 ?_
  refine xLaw2 hP hD hS hA (va_runV (As := [.int (xs (i + 1)), .int (xs (i + 2))]) (rest := [.int r1]) C (k5_leastRank l D kA a S u2 hI h2 (xs (i + 1)) (xs (i + 2)) _) (cwV 2 hts gL_law_X5_leastRank rfl rfl rfl (by decide +kernel) ⟨Nat.le_of_ble_eq_true rfl, Nat.le_of_ble_eq_true rfl⟩) (xPreVw (q0 := 0) hN (va_P2 hP) (va_Db hD) (fun _ h => Or.inr h) rfl hat2 rfl) rfl rfl hl.1 rfl (lv_room (Nat.le_of_ble_eq_true rfl)) dL_law_658 ⟨(Nat.le_trans (Nat.le_add_right _ 14) hcl), (Nat.le_trans (Nat.le_add_right _ 212) hsl)⟩) (fun r2 v2 H locs hq2 hP hD hS => ?_)
  obtain ⟨e2, g2⟩ := hq2
  refine lv_icmp_eq (tgt := 863) hx hb dL_law_661 (by decide) (fun _ => ?_) (fun h9 => absurd (e1.trans e2.symm) h9)
  refine W.widen (k := cells + 14) (n := slots + 212) (by omega) (by omega) ?_
  exact kk _ _ _ _ _ (i_leastRank hI) g1 g2 hP hD hS
set_option maxHeartbeats 4000000 in
set_option maxRecDepth 100000 in
theorem law_ifStruck {p : Program} {l : Launch} {e : Env} {s : State} {m : MethodId} {below : List Frame} {meth : Method} {c : Code} {H : Heap} {locs : List Loc} {cells slots : Nat} {Q : State → Prop} {ls : Array Slot} {D : va_G} {kA : Nat → ClassId} {b L i : Nat} {xs : Nat → Int32} {ox os ob ot a : Nat → Nat} {S : Sig} {u1 u2 : va_W} (C : CallFix p m c cL_law 4 s #[Value.ref b] wsL_law RL) (hN : KN D kA s) (hX : va_X b L xs s s.heap) (hbl : b < s.heap.size) (hi : i + 5 < L) (hL : L ≤ 3072) (hI : InvS S) (h1 : ClsR kA ox os ob ot S u1) (h2 : ModR kA a S u2) (hP : va_P D vwCl (u1 ++ u2) H) (hD : va_D (fun q : Nat => s.heap.size ≤ q) (u1 ++ u2)) (hS : va_S (fun q : Nat => s.heap.size ≤ q) s.heap H locs) (hl : lv_has ls 4 [(3, .int (nI i)), (0, .ref b), (1, .ref (ox 0)), (2, .ref (a 0))]) (hcl : cells + 14 ≤ 600000) (hsl : slots + 212 ≤ 7302250) (kk : ∀ (S2 : Sig) (v1 v2 : va_W) (H1 : Heap) (locs1 : List Loc), InvS S2 → ClsR kA ox os ob ot S2 v1 → ModR kA a S2 v2 → va_P D vwCl (v1 ++ v2) H1 → va_D (fun q : Nat => s.heap.size ≤ q) (v1 ++ v2) → va_S (fun q : Nat => s.heap.size ≤ q) s.heap H1 locs1 → W p l e room_1 s m #[Value.ref b] below meth c H1 locs1 (cells + 14) (slots + 212) Q (F0 m 863 ls [])) : W p l e room_1 s m #[Value.ref b] below meth c H locs cells slots Q (F0 m 666 ls []) := by
  obtain ⟨hx, hb, hml, hown, hts⟩ := id C
  have hA : ∀ q : Nat, s.heap.size ≤ q → (fun q : Nat => s.heap.size ≤ q) q := fun _ h => h
  have hbA : ¬ (fun q : Nat => s.heap.size ≤ q) b := Nat.not_le.mpr hbl
  obtain ⟨f1, hat1⟩ := cls_at h1
  obtain ⟨f2, hat2⟩ := mod_at h2
  refine lv_aload_n hx hb dL_law_666 rfl (lv_at hl 2 rfl) ?_
  refine lv_aload_n hx hb dL_law_667 rfl (lv_at hl 1 rfl) ?_
  refine lv_iload_n hx hb dL_law_668 rfl (lv_at hl 0 rfl) ?_
  refine lv_iconst (v := nI 1) hx hb dL_law_669 (by decide) ?_
  refine xIadd C dL_law_670 ?_
  refine xSld C hX hbl hbA hS (show i + 1 < L by omega) (by omega) dL_law_671 ?_
  refine xLaw1 hP hD hS hA (va_runV (As := [.int (xs (i + 1))]) (rest := []) C (k4_ifStruck l D kA ox os ob ot S u1 hI h1 (xs (i + 1)) _) (cwV 1 hts gL_law_X4_ifStruck rfl rfl rfl (by decide +kernel) ⟨Nat.le_of_ble_eq_true rfl, Nat.le_of_ble_eq_true rfl⟩) (xPreVw (q0 := 0) hN (va_P1 hP) (va_Da hD) (fun _ h => Or.inr h) rfl hat1 rfl) rfl rfl hl.1 rfl (lv_room (Nat.le_of_ble_eq_true rfl)) dL_law_672 ⟨(Nat.le_trans (Nat.le_add_right _ 14) hcl), (Nat.le_trans (Nat.le_add_right _ 212) hsl)⟩) (fun r1 v1 H locs hq1 hP hD hS => ?_)
  obtain ⟨e1, g1⟩ := hq1
  refine lv_aload_n hx hb dL_law_675 rfl (lv_at hl 3 rfl) ?_
  refine lv_aload_n hx hb dL_law_676 rfl (lv_at hl 1 rfl) ?_
  refine lv_iload_n hx hb dL_law_677 rfl (lv_at hl 0 rfl) ?_
  refine lv_iconst (v := nI 1) hx hb dL_law_678 (by decide) ?_
  refine xIadd C dL_law_679 ?_
  refine xSld C hX hbl hbA hS (show i + 1 < L by omega) (by omega) dL_law_680 ?_
  refine xLaw2 hP hD hS hA (va_runV (As := [.int (xs (i + 1))]) (rest := [.int r1]) C (k5_ifStruck l D kA a S u2 hI h2 (xs (i + 1)) _) (cwV 1 hts gL_law_X5_ifStruck rfl rfl rfl (by decide +kernel) ⟨Nat.le_of_ble_eq_true rfl, Nat.le_of_ble_eq_true rfl⟩) (xPreVw (q0 := 0) hN (va_P2 hP) (va_Db hD) (fun _ h => Or.inr h) rfl hat2 rfl) rfl rfl hl.1 rfl (lv_room (Nat.le_of_ble_eq_true rfl)) dL_law_681 ⟨(Nat.le_trans (Nat.le_add_right _ 14) hcl), (Nat.le_trans (Nat.le_add_right _ 212) hsl)⟩) (fun r2 v2 H locs hq2 hP hD hS => ?_)
  obtain ⟨e2, g2⟩ := hq2
  refine lv_icmp_eq (tgt := 863) hx hb dL_law_684 (by decide) (fun _ => ?_) (fun h9 => absurd (e1.trans e2.symm) h9)
  refine W.widen (k := cells + 14) (n := slots + 212) (by omega) (by omega) ?_
  exact kk _ _ _ _ _ (i_ifStruck hI) g1 g2 hP hD hS
set_option maxHeartbeats 4000000 in
set_option maxRecDepth 100000 in
theorem law_worstBan {p : Program} {l : Launch} {e : Env} {s : State} {m : MethodId} {below : List Frame} {meth : Method} {c : Code} {H : Heap} {locs : List Loc} {cells slots : Nat} {Q : State → Prop} {ls : Array Slot} {D : va_G} {kA : Nat → ClassId} {b L i : Nat} {xs : Nat → Int32} {ox os ob ot a : Nat → Nat} {S : Sig} {u1 u2 : va_W} (C : CallFix p m c cL_law 4 s #[Value.ref b] wsL_law RL) (hN : KN D kA s) (hX : va_X b L xs s s.heap) (hbl : b < s.heap.size) (hi : i + 5 < L) (hL : L ≤ 3072) (hI : InvS S) (h1 : ClsR kA ox os ob ot S u1) (h2 : ModR kA a S u2) (hP : va_P D vwCl (u1 ++ u2) H) (hD : va_D (fun q : Nat => s.heap.size ≤ q) (u1 ++ u2)) (hS : va_S (fun q : Nat => s.heap.size ≤ q) s.heap H locs) (hl : lv_has ls 4 [(3, .int (nI i)), (0, .ref b), (1, .ref (ox 0)), (2, .ref (a 0))]) (hcl : cells + 14 ≤ 600000) (hsl : slots + 212 ≤ 7302250) (kk : ∀ (S2 : Sig) (v1 v2 : va_W) (H1 : Heap) (locs1 : List Loc), InvS S2 → ClsR kA ox os ob ot S2 v1 → ModR kA a S2 v2 → va_P D vwCl (v1 ++ v2) H1 → va_D (fun q : Nat => s.heap.size ≤ q) (v1 ++ v2) → va_S (fun q : Nat => s.heap.size ≤ q) s.heap H1 locs1 → W p l e room_1 s m #[Value.ref b] below meth c H1 locs1 (cells + 14) (slots + 212) Q (F0 m 863 ls [])) : W p l e room_1 s m #[Value.ref b] below meth c H locs cells slots Q (F0 m 689 ls []) := by
  obtain ⟨hx, hb, hml, hown, hts⟩ := id C
  have hA : ∀ q : Nat, s.heap.size ≤ q → (fun q : Nat => s.heap.size ≤ q) q := fun _ h => h
  have hbA : ¬ (fun q : Nat => s.heap.size ≤ q) b := Nat.not_le.mpr hbl
  obtain ⟨f1, hat1⟩ := cls_at h1
  obtain ⟨f2, hat2⟩ := mod_at h2
  refine lv_aload_n hx hb dL_law_689 rfl (lv_at hl 2 rfl) ?_
  refine xLaw1 hP hD hS hA (va_runV (As := []) (rest := []) C (k4_worstBan l D kA ox os ob ot S u1 hI h1  _) (cwV 0 hts gL_law_X4_worstBan rfl rfl rfl (by decide +kernel) ⟨Nat.le_of_ble_eq_true rfl, Nat.le_of_ble_eq_true rfl⟩) (xPreVw (q0 := 0) hN (va_P1 hP) (va_Da hD) (fun _ h => Or.inr h) rfl hat1 rfl) rfl rfl hl.1 rfl (lv_room (Nat.le_of_ble_eq_true rfl)) dL_law_690 ⟨(Nat.le_trans (Nat.le_add_right _ 14) hcl), (Nat.le_trans (Nat.le_add_right _ 212) hsl)⟩) (fun r1 v1 H locs hq1 hP hD hS => ?_)
  obtain ⟨e1, g1⟩ := hq1
  refine lv_aload_n hx hb dL_law_693 rfl (lv_at hl 3 rfl) ?_
  refine xLaw2 hP hD hS hA (va_runV (As := []) (rest := [.int r1]) C (k5_worstBan l D kA a S u2 hI h2  _) (cwV 0 hts gL_law_X5_worstBan rfl rfl rfl (by decide +kernel) ⟨Nat.le_of_ble_eq_true rfl, Nat.le_of_ble_eq_true rfl⟩) (xPreVw (q0 := 0) hN (va_P2 hP) (va_Db hD) (fun _ h => Or.inr h) rfl hat2 rfl) rfl rfl hl.1 rfl (lv_room (Nat.le_of_ble_eq_true rfl)) dL_law_694 ⟨(Nat.le_trans (Nat.le_add_right _ 14) hcl), (Nat.le_trans (Nat.le_add_right _ 212) hsl)⟩) (fun r2 v2 H locs hq2 hP hD hS => ?_)
  obtain ⟨e2, g2⟩ := hq2
  refine lv_icmp_eq (tgt := 863) hx hb dL_law_697 (by decide) (fun _ => ?_) (fun h9 => absurd (e1.trans e2.symm) h9)
  refine W.widen (k := cells + 14) (n := slots + 212) (by omega) (by omega) ?_
  exact kk _ _ _ _ _ (i_worstBan hI) g1 g2 hP hD hS
set_option maxHeartbeats 4000000 in
set_option maxRecDepth 100000 in
theorem law_bestWaiver {p : Program} {l : Launch} {e : Env} {s : State} {m : MethodId} {below : List Frame} {meth : Method} {c : Code} {H : Heap} {locs : List Loc} {cells slots : Nat} {Q : State → Prop} {ls : Array Slot} {D : va_G} {kA : Nat → ClassId} {b L i : Nat} {xs : Nat → Int32} {ox os ob ot a : Nat → Nat} {S : Sig} {u1 u2 : va_W} (C : CallFix p m c cL_law 4 s #[Value.ref b] wsL_law RL) (hN : KN D kA s) (hX : va_X b L xs s s.heap) (hbl : b < s.heap.size) (hi : i + 5 < L) (hL : L ≤ 3072) (hI : InvS S) (h1 : ClsR kA ox os ob ot S u1) (h2 : ModR kA a S u2) (hP : va_P D vwCl (u1 ++ u2) H) (hD : va_D (fun q : Nat => s.heap.size ≤ q) (u1 ++ u2)) (hS : va_S (fun q : Nat => s.heap.size ≤ q) s.heap H locs) (hl : lv_has ls 4 [(3, .int (nI i)), (0, .ref b), (1, .ref (ox 0)), (2, .ref (a 0))]) (hcl : cells + 14 ≤ 600000) (hsl : slots + 212 ≤ 7302250) (kk : ∀ (S2 : Sig) (v1 v2 : va_W) (H1 : Heap) (locs1 : List Loc), InvS S2 → ClsR kA ox os ob ot S2 v1 → ModR kA a S2 v2 → va_P D vwCl (v1 ++ v2) H1 → va_D (fun q : Nat => s.heap.size ≤ q) (v1 ++ v2) → va_S (fun q : Nat => s.heap.size ≤ q) s.heap H1 locs1 → W p l e room_1 s m #[Value.ref b] below meth c H1 locs1 (cells + 14) (slots + 212) Q (F0 m 863 ls [])) : W p l e room_1 s m #[Value.ref b] below meth c H locs cells slots Q (F0 m 702 ls []) := by
  obtain ⟨hx, hb, hml, hown, hts⟩ := id C
  have hA : ∀ q : Nat, s.heap.size ≤ q → (fun q : Nat => s.heap.size ≤ q) q := fun _ h => h
  have hbA : ¬ (fun q : Nat => s.heap.size ≤ q) b := Nat.not_le.mpr hbl
  obtain ⟨f1, hat1⟩ := cls_at h1
  obtain ⟨f2, hat2⟩ := mod_at h2
  refine lv_aload_n hx hb dL_law_702 rfl (lv_at hl 2 rfl) ?_
  refine lv_aload_n hx hb dL_law_703 rfl (lv_at hl 1 rfl) ?_
  refine lv_iload_n hx hb dL_law_704 rfl (lv_at hl 0 rfl) ?_
  refine lv_iconst (v := nI 1) hx hb dL_law_705 (by decide) ?_
  refine xIadd C dL_law_706 ?_
  refine xSld C hX hbl hbA hS (show i + 1 < L by omega) (by omega) dL_law_707 ?_
  refine xLaw1 hP hD hS hA (va_runV (As := [.int (xs (i + 1))]) (rest := []) C (k4_bestWaiver l D kA ox os ob ot S u1 hI h1 (xs (i + 1)) _) (cwV 1 hts gL_law_X4_bestWaiver rfl rfl rfl (by decide +kernel) ⟨Nat.le_of_ble_eq_true rfl, Nat.le_of_ble_eq_true rfl⟩) (xPreVw (q0 := 0) hN (va_P1 hP) (va_Da hD) (fun _ h => Or.inr h) rfl hat1 rfl) rfl rfl hl.1 rfl (lv_room (Nat.le_of_ble_eq_true rfl)) dL_law_708 ⟨(Nat.le_trans (Nat.le_add_right _ 14) hcl), (Nat.le_trans (Nat.le_add_right _ 212) hsl)⟩) (fun r1 v1 H locs hq1 hP hD hS => ?_)
  obtain ⟨e1, g1⟩ := hq1
  refine lv_aload_n hx hb dL_law_711 rfl (lv_at hl 3 rfl) ?_
  refine lv_aload_n hx hb dL_law_712 rfl (lv_at hl 1 rfl) ?_
  refine lv_iload_n hx hb dL_law_713 rfl (lv_at hl 0 rfl) ?_
  refine lv_iconst (v := nI 1) hx hb dL_law_714 (by decide) ?_
  refine xIadd C dL_law_715 ?_
  refine xSld C hX hbl hbA hS (show i + 1 < L by omega) (by omega) dL_law_716 ?_
  refine xLaw2 hP hD hS hA (va_runV (As := [.int (xs (i + 1))]) (rest := [.int r1]) C (k5_bestWaiver l D kA a S u2 hI h2 (xs (i + 1)) _) (cwV 1 hts gL_law_X5_bestWaiver rfl rfl rfl (by decide +kernel) ⟨Nat.le_of_ble_eq_true rfl, Nat.le_of_ble_eq_true rfl⟩) (xPreVw (q0 := 0) hN (va_P2 hP) (va_Db hD) (fun _ h => Or.inr h) rfl hat2 rfl) rfl rfl hl.1 rfl (lv_room (Nat.le_of_ble_eq_true rfl)) dL_law_717 ⟨(Nat.le_trans (Nat.le_add_right _ 14) hcl), (Nat.le_trans (Nat.le_add_right _ 212) hsl)⟩) (fun r2 v2 H locs hq2 hP hD hS => ?_)
  obtain ⟨e2, g2⟩ := hq2
  refine lv_icmp_eq (tgt := 863) hx hb dL_law_720 (by decide) (fun _ => ?_) (fun h9 => absurd (e1.trans e2.symm) h9)
  refine W.widen (k := cells + 14) (n := slots + 212) (by omega) (by omega) ?_
  exact kk _ _ _ _ _ (i_bestWaiver hI) g1 g2 hP hD hS
set_option maxHeartbeats 4000000 in
set_option maxRecDepth 100000 in
theorem law_put {p : Program} {l : Launch} {e : Env} {s : State} {m : MethodId} {below : List Frame} {meth : Method} {c : Code} {H : Heap} {locs : List Loc} {cells slots : Nat} {Q : State → Prop} {ls : Array Slot} {D : va_G} {kA : Nat → ClassId} {b L i : Nat} {xs : Nat → Int32} {ox os ob ot a : Nat → Nat} {S : Sig} {u1 u2 : va_W} (C : CallFix p m c cL_law 4 s #[Value.ref b] wsL_law RL) (hN : KN D kA s) (hX : va_X b L xs s s.heap) (hbl : b < s.heap.size) (hi : i + 5 < L) (hL : L ≤ 3072) (hI : InvS S) (h1 : ClsR kA ox os ob ot S u1) (h2 : ModR kA a S u2) (hP : va_P D vwCl (u1 ++ u2) H) (hD : va_D (fun q : Nat => s.heap.size ≤ q) (u1 ++ u2)) (hS : va_S (fun q : Nat => s.heap.size ≤ q) s.heap H locs) (hl : lv_has ls 4 [(3, .int (nI i)), (0, .ref b), (1, .ref (ox 0)), (2, .ref (a 0))]) (hcl : cells + 14 ≤ 600000) (hsl : slots + 212 ≤ 7302250) (kk : ∀ (S2 : Sig) (v1 v2 : va_W) (H1 : Heap) (locs1 : List Loc), InvS S2 → ClsR kA ox os ob ot S2 v1 → ModR kA a S2 v2 → va_P D vwCl (v1 ++ v2) H1 → va_D (fun q : Nat => s.heap.size ≤ q) (v1 ++ v2) → va_S (fun q : Nat => s.heap.size ≤ q) s.heap H1 locs1 → W p l e room_1 s m #[Value.ref b] below meth c H1 locs1 (cells + 14) (slots + 212) Q (F0 m 863 ls [])) : W p l e room_1 s m #[Value.ref b] below meth c H locs cells slots Q (F0 m 725 ls []) := by
  obtain ⟨hx, hb, hml, hown, hts⟩ := id C
  have hA : ∀ q : Nat, s.heap.size ≤ q → (fun q : Nat => s.heap.size ≤ q) q := fun _ h => h
  have hbA : ¬ (fun q : Nat => s.heap.size ≤ q) b := Nat.not_le.mpr hbl
  obtain ⟨f1, hat1⟩ := cls_at h1
  obtain ⟨f2, hat2⟩ := mod_at h2
  obtain ⟨X, hX64, eX⟩ := wb_of (put_arg xs i)
  refine lv_aload_n hx hb dL_law_725 rfl (lv_at hl 2 rfl) ?_
  refine lv_aload_n hx hb dL_law_726 rfl (lv_at hl 1 rfl) ?_
  refine lv_iload_n hx hb dL_law_727 rfl (lv_at hl 0 rfl) ?_
  refine lv_iconst (v := nI 1) hx hb dL_law_728 (by decide) ?_
  refine xIadd C dL_law_729 ?_
  refine xSld C hX hbl hbA hS (show i + 1 < L by omega) (by omega) dL_law_730 ?_
  refine lv_i2l (v := ((xs (i + 1))).toInt64) hx hb dL_law_731 rfl ?_
  refine lv_bipush (v := nI 32) hx hb dL_law_732 (by decide) ?_
  refine lv_lshl (v := ((((xs (i + 1))).toInt64) <<< ((nI 32).toInt64 &&& 63))) hx hb dL_law_734 rfl ?_
  refine lv_aload_n hx hb dL_law_735 rfl (lv_at hl 1 rfl) ?_
  refine lv_iload_n hx hb dL_law_736 rfl (lv_at hl 0 rfl) ?_
  refine lv_iconst (v := nI 2) hx hb dL_law_737 (by decide) ?_
  refine xIadd C dL_law_738 ?_
  refine xSld C hX hbl hbA hS (show i + 2 < L by omega) (by omega) dL_law_739 ?_
  refine lv_i2l (v := ((xs (i + 2))).toInt64) hx hb dL_law_740 rfl ?_
  refine lv_ldc2 (v := 4294967295) hx hb hown (hts _ law_const) dL_law_741 ?_
  refine lv_land hx hb dL_law_744 ?_
  refine lv_lor hx hb dL_law_745 ?_
  refine xTopL (y := lN X) eX ?_
  refine xLaw1 hP hD hS hA (va_runV (As := [.long (lN X)]) (rest := []) C (k4_put l D kA ox os ob ot S u1 hI h1 X hX64 _) (cwV 1 hts gL_law_X4_put rfl rfl rfl (by decide +kernel) ⟨Nat.le_of_ble_eq_true rfl, Nat.le_of_ble_eq_true rfl⟩) (xPreVw (q0 := 0) hN (va_P1 hP) (va_Da hD) (fun _ h => Or.inr h) rfl hat1 rfl) rfl rfl hl.1 rfl (lv_room (Nat.le_of_ble_eq_true rfl)) dL_law_746 ⟨(Nat.le_trans (Nat.le_add_right _ 14) hcl), (Nat.le_trans (Nat.le_add_right _ 212) hsl)⟩) (fun r1 v1 H locs hq1 hP hD hS => ?_)
  obtain ⟨e1, g1⟩ := hq1
  refine lv_aload_n hx hb dL_law_749 rfl (lv_at hl 3 rfl) ?_
  refine lv_aload_n hx hb dL_law_750 rfl (lv_at hl 1 rfl) ?_
  refine lv_iload_n hx hb dL_law_751 rfl (lv_at hl 0 rfl) ?_
  refine lv_iconst (v := nI 1) hx hb dL_law_752 (by decide) ?_
  refine xIadd C dL_law_753 ?_
  refine xSld C hX hbl hbA hS (show i + 1 < L by omega) (by omega) dL_law_754 ?_
  refine lv_i2l (v := ((xs (i + 1))).toInt64) hx hb dL_law_755 rfl ?_
  refine lv_bipush (v := nI 32) hx hb dL_law_756 (by decide) ?_
  refine lv_lshl (v := ((((xs (i + 1))).toInt64) <<< ((nI 32).toInt64 &&& 63))) hx hb dL_law_758 rfl ?_
  refine lv_aload_n hx hb dL_law_759 rfl (lv_at hl 1 rfl) ?_
  refine lv_iload_n hx hb dL_law_760 rfl (lv_at hl 0 rfl) ?_
  refine lv_iconst (v := nI 2) hx hb dL_law_761 (by decide) ?_
  refine xIadd C dL_law_762 ?_
  refine xSld C hX hbl hbA hS (show i + 2 < L by omega) (by omega) dL_law_763 ?_
  refine lv_i2l (v := ((xs (i + 2))).toInt64) hx hb dL_law_764 rfl ?_
  refine lv_ldc2 (v := 4294967295) hx hb hown (hts _ law_const) dL_law_765 ?_
  refine lv_land hx hb dL_law_768 ?_
  refine lv_lor hx hb dL_law_769 ?_
  refine xTopL (y := lN X) eX ?_
  refine xLaw2 hP hD hS hA (va_runV (As := [.long (lN X)]) (rest := [.int r1]) C (k5_put l D kA a S u2 hI h2 X hX64 _) (cwV 1 hts gL_law_X5_put rfl rfl rfl (by decide +kernel) ⟨Nat.le_of_ble_eq_true rfl, Nat.le_of_ble_eq_true rfl⟩) (xPreVw (q0 := 0) hN (va_P2 hP) (va_Db hD) (fun _ h => Or.inr h) rfl hat2 rfl) rfl rfl hl.1 rfl (lv_room (Nat.le_of_ble_eq_true rfl)) dL_law_770 ⟨(Nat.le_trans (Nat.le_add_right _ 14) hcl), (Nat.le_trans (Nat.le_add_right _ 212) hsl)⟩) (fun r2 v2 H locs hq2 hP hD hS => ?_)
  obtain ⟨e2, g2⟩ := hq2
  refine lv_icmp_eq (tgt := 863) hx hb dL_law_773 (by decide) (fun _ => ?_) (fun h9 => absurd (e1.trans e2.symm) h9)
  refine W.widen (k := cells + 14) (n := slots + 212) (by omega) (by omega) ?_
  exact kk _ _ _ _ _ (i_put hI) g1 g2 hP hD hS
set_option maxHeartbeats 4000000 in
set_option maxRecDepth 100000 in
theorem law_wipe {p : Program} {l : Launch} {e : Env} {s : State} {m : MethodId} {below : List Frame} {meth : Method} {c : Code} {H : Heap} {locs : List Loc} {cells slots : Nat} {Q : State → Prop} {ls : Array Slot} {D : va_G} {kA : Nat → ClassId} {b L i : Nat} {xs : Nat → Int32} {ox os ob ot a : Nat → Nat} {S : Sig} {u1 u2 : va_W} (C : CallFix p m c cL_law 4 s #[Value.ref b] wsL_law RL) (hN : KN D kA s) (hX : va_X b L xs s s.heap) (hbl : b < s.heap.size) (hi : i + 5 < L) (hL : L ≤ 3072) (hI : InvS S) (h1 : ClsR kA ox os ob ot S u1) (h2 : ModR kA a S u2) (hP : va_P D vwCl (u1 ++ u2) H) (hD : va_D (fun q : Nat => s.heap.size ≤ q) (u1 ++ u2)) (hS : va_S (fun q : Nat => s.heap.size ≤ q) s.heap H locs) (hl : lv_has ls 4 [(3, .int (nI i)), (0, .ref b), (1, .ref (ox 0)), (2, .ref (a 0))]) (hcl : cells + 14 ≤ 600000) (hsl : slots + 212 ≤ 7302250) (kk : ∀ (S2 : Sig) (v1 v2 : va_W) (H1 : Heap) (locs1 : List Loc), InvS S2 → ClsR kA ox os ob ot S2 v1 → ModR kA a S2 v2 → va_P D vwCl (v1 ++ v2) H1 → va_D (fun q : Nat => s.heap.size ≤ q) (v1 ++ v2) → va_S (fun q : Nat => s.heap.size ≤ q) s.heap H1 locs1 → W p l e room_1 s m #[Value.ref b] below meth c H1 locs1 (cells + 14) (slots + 212) Q (F0 m 863 ls [])) : W p l e room_1 s m #[Value.ref b] below meth c H locs cells slots Q (F0 m 778 ls []) := by
  obtain ⟨hx, hb, hml, hown, hts⟩ := id C
  have hA : ∀ q : Nat, s.heap.size ≤ q → (fun q : Nat => s.heap.size ≤ q) q := fun _ h => h
  have hbA : ¬ (fun q : Nat => s.heap.size ≤ q) b := Nat.not_le.mpr hbl
  obtain ⟨f1, hat1⟩ := cls_at h1
  obtain ⟨f2, hat2⟩ := mod_at h2
  refine lv_aload_n hx hb dL_law_778 rfl (lv_at hl 2 rfl) ?_
  refine xLaw1 hP hD hS hA (va_runV (As := []) (rest := []) C (k4_wipe l D kA ox os ob ot S u1 hI h1  _) (cwV 0 hts gL_law_X4_wipe rfl rfl rfl (by decide +kernel) ⟨Nat.le_of_ble_eq_true rfl, Nat.le_of_ble_eq_true rfl⟩) (xPreVw (q0 := 0) hN (va_P1 hP) (va_Da hD) (fun _ h => Or.inr h) rfl hat1 rfl) rfl rfl hl.1 rfl (lv_room (Nat.le_of_ble_eq_true rfl)) dL_law_779 ⟨(Nat.le_trans (Nat.le_add_right _ 14) hcl), (Nat.le_trans (Nat.le_add_right _ 212) hsl)⟩) (fun r1 v1 H locs hq1 hP hD hS => ?_)
  obtain ⟨e1, g1⟩ := hq1
  refine lv_aload_n hx hb dL_law_782 rfl (lv_at hl 3 rfl) ?_
  refine xLaw2 hP hD hS hA (va_runV (As := []) (rest := [.int r1]) C (k5_wipe l D kA a S u2 hI h2  _) (cwV 0 hts gL_law_X5_wipe rfl rfl rfl (by decide +kernel) ⟨Nat.le_of_ble_eq_true rfl, Nat.le_of_ble_eq_true rfl⟩) (xPreVw (q0 := 0) hN (va_P2 hP) (va_Db hD) (fun _ h => Or.inr h) rfl hat2 rfl) rfl rfl hl.1 rfl (lv_room (Nat.le_of_ble_eq_true rfl)) dL_law_783 ⟨(Nat.le_trans (Nat.le_add_right _ 14) hcl), (Nat.le_trans (Nat.le_add_right _ 212) hsl)⟩) (fun r2 v2 H locs hq2 hP hD hS => ?_)
  obtain ⟨e2, g2⟩ := hq2
  refine lv_icmp_eq (tgt := 863) hx hb dL_law_786 (by decide) (fun _ => ?_) (fun h9 => absurd (e1.trans e2.symm) h9)
  refine W.widen (k := cells + 14) (n := slots + 212) (by omega) (by omega) ?_
  exact kk _ _ _ _ _ (i_wipe hI) g1 g2 hP hD hS
set_option maxHeartbeats 4000000 in
set_option maxRecDepth 100000 in
theorem law_fault {p : Program} {l : Launch} {e : Env} {s : State} {m : MethodId} {below : List Frame} {meth : Method} {c : Code} {H : Heap} {locs : List Loc} {cells slots : Nat} {Q : State → Prop} {ls : Array Slot} {D : va_G} {kA : Nat → ClassId} {b L i : Nat} {xs : Nat → Int32} {ox os ob ot a : Nat → Nat} {S : Sig} {u1 u2 : va_W} (C : CallFix p m c cL_law 4 s #[Value.ref b] wsL_law RL) (hN : KN D kA s) (hX : va_X b L xs s s.heap) (hbl : b < s.heap.size) (hi : i + 5 < L) (hL : L ≤ 3072) (hI : InvS S) (h1 : ClsR kA ox os ob ot S u1) (h2 : ModR kA a S u2) (hP : va_P D vwCl (u1 ++ u2) H) (hD : va_D (fun q : Nat => s.heap.size ≤ q) (u1 ++ u2)) (hS : va_S (fun q : Nat => s.heap.size ≤ q) s.heap H locs) (hl : lv_has ls 4 [(3, .int (nI i)), (0, .ref b), (1, .ref (ox 0)), (2, .ref (a 0))]) (hcl : cells + 14 ≤ 600000) (hsl : slots + 212 ≤ 7302250) (kk : ∀ (S2 : Sig) (v1 v2 : va_W) (H1 : Heap) (locs1 : List Loc), InvS S2 → ClsR kA ox os ob ot S2 v1 → ModR kA a S2 v2 → va_P D vwCl (v1 ++ v2) H1 → va_D (fun q : Nat => s.heap.size ≤ q) (v1 ++ v2) → va_S (fun q : Nat => s.heap.size ≤ q) s.heap H1 locs1 → W p l e room_1 s m #[Value.ref b] below meth c H1 locs1 (cells + 14) (slots + 212) Q (F0 m 863 ls [])) : W p l e room_1 s m #[Value.ref b] below meth c H locs cells slots Q (F0 m 791 ls []) := by
  obtain ⟨hx, hb, hml, hown, hts⟩ := id C
  have hA : ∀ q : Nat, s.heap.size ≤ q → (fun q : Nat => s.heap.size ≤ q) q := fun _ h => h
  have hbA : ¬ (fun q : Nat => s.heap.size ≤ q) b := Nat.not_le.mpr hbl
  obtain ⟨f1, hat1⟩ := cls_at h1
  obtain ⟨f2, hat2⟩ := mod_at h2
  refine lv_aload_n hx hb dL_law_791 rfl (lv_at hl 2 rfl) ?_
  refine xLaw1 hP hD hS hA (va_runV (As := []) (rest := []) C (k4_fault l D kA ox os ob ot S u1 hI h1  _) (cwV 0 hts gL_law_X4_fault rfl rfl rfl (by decide +kernel) ⟨Nat.le_of_ble_eq_true rfl, Nat.le_of_ble_eq_true rfl⟩) (xPreVw (q0 := 0) hN (va_P1 hP) (va_Da hD) (fun _ h => Or.inr h) rfl hat1 rfl) rfl rfl hl.1 rfl (lv_room (Nat.le_of_ble_eq_true rfl)) dL_law_792 ⟨(Nat.le_trans (Nat.le_add_right _ 14) hcl), (Nat.le_trans (Nat.le_add_right _ 212) hsl)⟩) (fun r1 v1 H locs hq1 hP hD hS => ?_)
  obtain ⟨e1, g1⟩ := hq1
  refine lv_aload_n hx hb dL_law_795 rfl (lv_at hl 3 rfl) ?_
  refine xLaw2 hP hD hS hA (va_runV (As := []) (rest := [.int r1]) C (k5_fault l D kA a S u2 hI h2  _) (cwV 0 hts gL_law_X5_fault rfl rfl rfl (by decide +kernel) ⟨Nat.le_of_ble_eq_true rfl, Nat.le_of_ble_eq_true rfl⟩) (xPreVw (q0 := 0) hN (va_P2 hP) (va_Db hD) (fun _ h => Or.inr h) rfl hat2 rfl) rfl rfl hl.1 rfl (lv_room (Nat.le_of_ble_eq_true rfl)) dL_law_796 ⟨(Nat.le_trans (Nat.le_add_right _ 14) hcl), (Nat.le_trans (Nat.le_add_right _ 212) hsl)⟩) (fun r2 v2 H locs hq2 hP hD hS => ?_)
  obtain ⟨e2, g2⟩ := hq2
  refine lv_icmp_eq (tgt := 863) hx hb dL_law_799 (by decide) (fun _ => ?_) (fun h9 => absurd (e1.trans e2.symm) h9)
  refine W.widen (k := cells + 14) (n := slots + 212) (by omega) (by omega) ?_
  exact kk _ _ _ _ _ (i_fault hI) g1 g2 hP hD hS
set_option maxHeartbeats 4000000 in
set_option maxRecDepth 100000 in
theorem law_undo {p : Program} {l : Launch} {e : Env} {s : State} {m : MethodId} {below : List Frame} {meth : Method} {c : Code} {H : Heap} {locs : List Loc} {cells slots : Nat} {Q : State → Prop} {ls : Array Slot} {D : va_G} {kA : Nat → ClassId} {b L i : Nat} {xs : Nat → Int32} {ox os ob ot a : Nat → Nat} {S : Sig} {u1 u2 : va_W} (C : CallFix p m c cL_law 4 s #[Value.ref b] wsL_law RL) (hN : KN D kA s) (hX : va_X b L xs s s.heap) (hbl : b < s.heap.size) (hi : i + 5 < L) (hL : L ≤ 3072) (hI : InvS S) (h1 : ClsR kA ox os ob ot S u1) (h2 : ModR kA a S u2) (hP : va_P D vwCl (u1 ++ u2) H) (hD : va_D (fun q : Nat => s.heap.size ≤ q) (u1 ++ u2)) (hS : va_S (fun q : Nat => s.heap.size ≤ q) s.heap H locs) (hl : lv_has ls 4 [(3, .int (nI i)), (0, .ref b), (1, .ref (ox 0)), (2, .ref (a 0))]) (hcl : cells + 14 ≤ 600000) (hsl : slots + 212 ≤ 7302250) (kk : ∀ (S2 : Sig) (v1 v2 : va_W) (H1 : Heap) (locs1 : List Loc), InvS S2 → ClsR kA ox os ob ot S2 v1 → ModR kA a S2 v2 → va_P D vwCl (v1 ++ v2) H1 → va_D (fun q : Nat => s.heap.size ≤ q) (v1 ++ v2) → va_S (fun q : Nat => s.heap.size ≤ q) s.heap H1 locs1 → W p l e room_1 s m #[Value.ref b] below meth c H1 locs1 (cells + 14) (slots + 212) Q (F0 m 863 ls [])) : W p l e room_1 s m #[Value.ref b] below meth c H locs cells slots Q (F0 m 804 ls []) := by
  obtain ⟨hx, hb, hml, hown, hts⟩ := id C
  have hA : ∀ q : Nat, s.heap.size ≤ q → (fun q : Nat => s.heap.size ≤ q) q := fun _ h => h
  have hbA : ¬ (fun q : Nat => s.heap.size ≤ q) b := Nat.not_le.mpr hbl
  obtain ⟨f1, hat1⟩ := cls_at h1
  obtain ⟨f2, hat2⟩ := mod_at h2
  refine lv_aload_n hx hb dL_law_804 rfl (lv_at hl 2 rfl) ?_
  refine xLaw1 hP hD hS hA (va_runV (As := []) (rest := []) C (k4_undo l D kA ox os ob ot S u1 hI h1  _) (cwV 0 hts gL_law_X4_undo rfl rfl rfl (by decide +kernel) ⟨Nat.le_of_ble_eq_true rfl, Nat.le_of_ble_eq_true rfl⟩) (xPreVw (q0 := 0) hN (va_P1 hP) (va_Da hD) (fun _ h => Or.inr h) rfl hat1 rfl) rfl rfl hl.1 rfl (lv_room (Nat.le_of_ble_eq_true rfl)) dL_law_805 ⟨(Nat.le_trans (Nat.le_add_right _ 14) hcl), (Nat.le_trans (Nat.le_add_right _ 212) hsl)⟩) (fun r1 v1 H locs hq1 hP hD hS => ?_)
  obtain ⟨e1, g1⟩ := hq1
  refine lv_aload_n hx hb dL_law_808 rfl (lv_at hl 3 rfl) ?_
  refine xLaw2 hP hD hS hA (va_runV (As := []) (rest := [.int r1]) C (k5_undo l D kA a S u2 hI h2  _) (cwV 0 hts gL_law_X5_undo rfl rfl rfl (by decide +kernel) ⟨Nat.le_of_ble_eq_true rfl, Nat.le_of_ble_eq_true rfl⟩) (xPreVw (q0 := 0) hN (va_P2 hP) (va_Db hD) (fun _ h => Or.inr h) rfl hat2 rfl) rfl rfl hl.1 rfl (lv_room (Nat.le_of_ble_eq_true rfl)) dL_law_809 ⟨(Nat.le_trans (Nat.le_add_right _ 14) hcl), (Nat.le_trans (Nat.le_add_right _ 212) hsl)⟩) (fun r2 v2 H locs hq2 hP hD hS => ?_)
  obtain ⟨e2, g2⟩ := hq2
  refine lv_icmp_eq (tgt := 863) hx hb dL_law_812 (by decide) (fun _ => ?_) (fun h9 => absurd (e1.trans e2.symm) h9)
  refine W.widen (k := cells + 14) (n := slots + 212) (by omega) (by omega) ?_
  exact kk _ _ _ _ _ (i_undo hI) g1 g2 hP hD hS
set_option maxHeartbeats 4000000 in
set_option maxRecDepth 100000 in
theorem law_save {p : Program} {l : Launch} {e : Env} {s : State} {m : MethodId} {below : List Frame} {meth : Method} {c : Code} {H : Heap} {locs : List Loc} {cells slots : Nat} {Q : State → Prop} {ls : Array Slot} {D : va_G} {kA : Nat → ClassId} {b L i : Nat} {xs : Nat → Int32} {ox os ob ot a : Nat → Nat} {S : Sig} {u1 u2 : va_W} (C : CallFix p m c cL_law 4 s #[Value.ref b] wsL_law RL) (hN : KN D kA s) (hX : va_X b L xs s s.heap) (hbl : b < s.heap.size) (hi : i + 5 < L) (hL : L ≤ 3072) (hI : InvS S) (h1 : ClsR kA ox os ob ot S u1) (h2 : ModR kA a S u2) (hP : va_P D vwCl (u1 ++ u2) H) (hD : va_D (fun q : Nat => s.heap.size ≤ q) (u1 ++ u2)) (hS : va_S (fun q : Nat => s.heap.size ≤ q) s.heap H locs) (hl : lv_has ls 4 [(3, .int (nI i)), (0, .ref b), (1, .ref (ox 0)), (2, .ref (a 0))]) (hcl : cells + 14 ≤ 600000) (hsl : slots + 212 ≤ 7302250) (kk : ∀ (S2 : Sig) (v1 v2 : va_W) (H1 : Heap) (locs1 : List Loc), InvS S2 → ClsR kA ox os ob ot S2 v1 → ModR kA a S2 v2 → va_P D vwCl (v1 ++ v2) H1 → va_D (fun q : Nat => s.heap.size ≤ q) (v1 ++ v2) → va_S (fun q : Nat => s.heap.size ≤ q) s.heap H1 locs1 → W p l e room_1 s m #[Value.ref b] below meth c H1 locs1 (cells + 14) (slots + 212) Q (F0 m 863 ls [])) : W p l e room_1 s m #[Value.ref b] below meth c H locs cells slots Q (F0 m 817 ls []) := by
  obtain ⟨hx, hb, hml, hown, hts⟩ := id C
  have hA : ∀ q : Nat, s.heap.size ≤ q → (fun q : Nat => s.heap.size ≤ q) q := fun _ h => h
  have hbA : ¬ (fun q : Nat => s.heap.size ≤ q) b := Nat.not_le.mpr hbl
  obtain ⟨f1, hat1⟩ := cls_at h1
  obtain ⟨f2, hat2⟩ := mod_at h2
  refine lv_aload_n hx hb dL_law_817 rfl (lv_at hl 2 rfl) ?_
  refine lv_aload_n hx hb dL_law_818 rfl (lv_at hl 1 rfl) ?_
  refine lv_iload_n hx hb dL_law_819 rfl (lv_at hl 0 rfl) ?_
  refine lv_iconst (v := nI 1) hx hb dL_law_820 (by decide) ?_
  refine xIadd C dL_law_821 ?_
  refine xSld C hX hbl hbA hS (show i + 1 < L by omega) (by omega) dL_law_822 ?_
  refine xLaw1 hP hD hS hA (va_runV (As := [.int (xs (i + 1))]) (rest := []) C (k4_save l D kA ox os ob ot S u1 hI h1 (xs (i + 1)) _) (cwV 1 hts gL_law_X4_save rfl rfl rfl (by decide +kernel) ⟨Nat.le_of_ble_eq_true rfl, Nat.le_of_ble_eq_true rfl⟩) (xPreVw (q0 := 0) hN (va_P1 hP) (va_Da hD) (fun _ h => Or.inr h) rfl hat1 rfl) rfl rfl hl.1 rfl (lv_room (Nat.le_of_ble_eq_true rfl)) dL_law_823 ⟨hcl, hsl⟩) (fun r1 v1 H locs hq1 hP hD hS => ?_)
  obtain ⟨e1, g1⟩ := hq1
  refine lv_aload_n hx hb dL_law_826 rfl (lv_at hl 3 rfl) ?_
  refine lv_aload_n hx hb dL_law_827 rfl (lv_at hl 1 rfl) ?_
  refine lv_iload_n hx hb dL_law_828 rfl (lv_at hl 0 rfl) ?_
  refine lv_iconst (v := nI 1) hx hb dL_law_829 (by decide) ?_
  refine xIadd C dL_law_830 ?_
  refine xSld C hX hbl hbA hS (show i + 1 < L by omega) (by omega) dL_law_831 ?_
  refine xLaw2 hP hD hS hA (va_runV (As := [.int (xs (i + 1))]) (rest := [.int r1]) C (k5_save l D kA a S u2 hI h2 (xs (i + 1)) _) (cwV 1 hts gL_law_X5_save rfl rfl rfl (by decide +kernel) ⟨Nat.le_of_ble_eq_true rfl, Nat.le_of_ble_eq_true rfl⟩) (xPreVw (q0 := 0) hN (va_P2 hP) (va_Db hD) (fun _ h => Or.inr h) rfl hat2 rfl) rfl rfl hl.1 rfl (lv_room (Nat.le_of_ble_eq_true rfl)) dL_law_832 ⟨hcl, hsl⟩) (fun r2 v2 H locs hq2 hP hD hS => ?_)
  obtain ⟨e2, g2⟩ := hq2
  refine lv_icmp_eq (tgt := 863) hx hb dL_law_835 (by decide) (fun _ => ?_) (fun h9 => absurd (e1.trans e2.symm) h9)
  refine W.widen (k := cells + 14) (n := slots + 212) (by omega) (by omega) ?_
  exact kk _ _ _ _ _ (i_save hI) g1 g2 hP hD hS
set_option maxHeartbeats 4000000 in
set_option maxRecDepth 100000 in
theorem law_restore {p : Program} {l : Launch} {e : Env} {s : State} {m : MethodId} {below : List Frame} {meth : Method} {c : Code} {H : Heap} {locs : List Loc} {cells slots : Nat} {Q : State → Prop} {ls : Array Slot} {D : va_G} {kA : Nat → ClassId} {b L i : Nat} {xs : Nat → Int32} {ox os ob ot a : Nat → Nat} {S : Sig} {u1 u2 : va_W} (C : CallFix p m c cL_law 4 s #[Value.ref b] wsL_law RL) (hN : KN D kA s) (hX : va_X b L xs s s.heap) (hbl : b < s.heap.size) (hi : i + 5 < L) (hL : L ≤ 3072) (hI : InvS S) (h1 : ClsR kA ox os ob ot S u1) (h2 : ModR kA a S u2) (hP : va_P D vwCl (u1 ++ u2) H) (hD : va_D (fun q : Nat => s.heap.size ≤ q) (u1 ++ u2)) (hS : va_S (fun q : Nat => s.heap.size ≤ q) s.heap H locs) (hl : lv_has ls 4 [(3, .int (nI i)), (0, .ref b), (1, .ref (ox 0)), (2, .ref (a 0))]) (hcl : cells + 14 ≤ 600000) (hsl : slots + 212 ≤ 7302250) (kk : ∀ (S2 : Sig) (v1 v2 : va_W) (H1 : Heap) (locs1 : List Loc), InvS S2 → ClsR kA ox os ob ot S2 v1 → ModR kA a S2 v2 → va_P D vwCl (v1 ++ v2) H1 → va_D (fun q : Nat => s.heap.size ≤ q) (v1 ++ v2) → va_S (fun q : Nat => s.heap.size ≤ q) s.heap H1 locs1 → W p l e room_1 s m #[Value.ref b] below meth c H1 locs1 (cells + 14) (slots + 212) Q (F0 m 863 ls [])) : W p l e room_1 s m #[Value.ref b] below meth c H locs cells slots Q (F0 m 840 ls []) := by
  obtain ⟨hx, hb, hml, hown, hts⟩ := id C
  have hA : ∀ q : Nat, s.heap.size ≤ q → (fun q : Nat => s.heap.size ≤ q) q := fun _ h => h
  have hbA : ¬ (fun q : Nat => s.heap.size ≤ q) b := Nat.not_le.mpr hbl
  obtain ⟨f1, hat1⟩ := cls_at h1
  obtain ⟨f2, hat2⟩ := mod_at h2
  refine lv_aload_n hx hb dL_law_840 rfl (lv_at hl 2 rfl) ?_
  refine lv_aload_n hx hb dL_law_841 rfl (lv_at hl 1 rfl) ?_
  refine lv_iload_n hx hb dL_law_842 rfl (lv_at hl 0 rfl) ?_
  refine lv_iconst (v := nI 1) hx hb dL_law_843 (by decide) ?_
  refine xIadd C dL_law_844 ?_
  refine xSld C hX hbl hbA hS (show i + 1 < L by omega) (by omega) dL_law_845 ?_
  refine xLaw1 hP hD hS hA (va_runV (As := [.int (xs (i + 1))]) (rest := []) C (k4_restore l D kA ox os ob ot S u1 hI h1 (xs (i + 1)) _) (cwV 1 hts gL_law_X4_restore rfl rfl rfl (by decide +kernel) ⟨Nat.le_of_ble_eq_true rfl, Nat.le_of_ble_eq_true rfl⟩) (xPreVw (q0 := 0) hN (va_P1 hP) (va_Da hD) (fun _ h => Or.inr h) rfl hat1 rfl) rfl rfl hl.1 rfl (lv_room (Nat.le_of_ble_eq_true rfl)) dL_law_846 ⟨hcl, hsl⟩) (fun r1 v1 H locs hq1 hP hD hS => ?_)
  obtain ⟨e1, g1⟩ := hq1
  refine lv_aload_n hx hb dL_law_849 rfl (lv_at hl 3 rfl) ?_
  refine lv_aload_n hx hb dL_law_850 rfl (lv_at hl 1 rfl) ?_
  refine lv_iload_n hx hb dL_law_851 rfl (lv_at hl 0 rfl) ?_
  refine lv_iconst (v := nI 1) hx hb dL_law_852 (by decide) ?_
  refine xIadd C dL_law_853 ?_
  refine xSld C hX hbl hbA hS (show i + 1 < L by omega) (by omega) dL_law_854 ?_
  refine xLaw2 hP hD hS hA (va_runV (As := [.int (xs (i + 1))]) (rest := [.int r1]) C (k5_restore l D kA a S u2 hI h2 (xs (i + 1)) _) (cwV 1 hts gL_law_X5_restore rfl rfl rfl (by decide +kernel) ⟨Nat.le_of_ble_eq_true rfl, Nat.le_of_ble_eq_true rfl⟩) (xPreVw (q0 := 0) hN (va_P2 hP) (va_Db hD) (fun _ h => Or.inr h) rfl hat2 rfl) rfl rfl hl.1 rfl (lv_room (Nat.le_of_ble_eq_true rfl)) dL_law_855 ⟨hcl, hsl⟩) (fun r2 v2 H locs hq2 hP hD hS => ?_)
  obtain ⟨e2, g2⟩ := hq2
  refine lv_icmp_eq (tgt := 863) hx hb dL_law_858 (by decide) (fun _ => ?_) (fun h9 => absurd (e1.trans e2.symm) h9)
  refine W.widen (k := cells + 14) (n := slots + 212) (by omega) (by omega) ?_
  exact kk _ _ _ _ _ (i_restore hI) g1 g2 hP hD hS
