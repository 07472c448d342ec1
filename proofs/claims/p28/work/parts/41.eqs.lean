/-! What each call of the law's answers, told in numbers. -/
section EQ
variable {V : Nat → Nat} {m : Nat} {P : Nat → Nat} {kt : Nat} {HH : Nat → Nat → Nat} {HB : Nat → Bool} {LL : Nat → Nat → Nat}
theorem hasB_t {n i : Nat} (h : i < n) (hn : n < 2 ^ 31) : hasB n (nI i) = true := has_i h hn
theorem hasB_f {n : Nat} (hn : n < 2 ^ 31) : hasB n (nI n) = false := by
  unfold hasB; rw [decide_eq_false (fun h => absurd ((nI_ltI hn hn).mp h) (Nat.lt_irrefl n)), Bool.and_false]
theorem inR_u {j a b : Nat} (h1 : a ≤ j) (h2 : j ≤ b) (hb : b < 2 ^ 31) : inR (nI j) (nI a) (nI b) = true := by
  rw [inR_nI (by omega) (by omega) hb]; unfold btwB; rw [decide_eq_true h1, decide_eq_true h2]; rfl
theorem e_rule {i w : Nat} (hV : V 0 ≤ 24) (hi : i < V 0) (hw : w ≤ 7) : opRule (V, m, P, kt, HH, HB, LL) (nI i) (nI w) = (ruV V i w, (V, m, P, kt, HH, HB, LL)) := by
  rw [opRule]; rw [hasB_t hi (by omega), inR_u (Nat.zero_le w) hw (by decide), toN_nI (by omega), toN_nI (by omega)]; simp
theorem e_ruleN {w : Int32} (hV : V 0 ≤ 24) : opRule (V, m, P, kt, HH, HB, LL) (nI (V 0)) w = (-1, (V, m, P, kt, HH, HB, LL)) := by
  rw [opRule]; rw [hasB_f (by omega)]; simp
theorem e_count {w : Nat} (hw : w ≤ 16) : opCount (V, m, P, kt, HH, HB, LL) (nI w) = (nI (cnV V m kt w), (V, m, P, kt, HH, HB, LL)) := by
  rw [opCount]; rw [inR_u (Nat.zero_le w) hw (by decide), toN_nI (by omega)]; simp
theorem e_count0 : opCount (V, m, P, kt, HH, HB, LL) (nI 0) = (nI (V 0), (V, m, P, kt, HH, HB, LL)) := e_count (by decide)
theorem e_count7 : opCount (V, m, P, kt, HH, HB, LL) (nI 7) = (nI (V 1), (V, m, P, kt, HH, HB, LL)) := e_count (by decide)
theorem e_count6 : opCount (V, m, P, kt, HH, HB, LL) (nI 6) = (nI (trpT (V 0) (TV V)), (V, m, P, kt, HH, HB, LL)) := e_count (by decide)
theorem e_count5 : opCount (V, m, P, kt, HH, HB, LL) (nI 5) = (nI (oprT (V 0) (TV V)), (V, m, P, kt, HH, HB, LL)) := e_count (by decide)
theorem e_count4 : opCount (V, m, P, kt, HH, HB, LL) (nI 4) = (nI (cntN (V 0) (idB V)), (V, m, P, kt, HH, HB, LL)) := e_count (by decide)
theorem e_count8 : opCount (V, m, P, kt, HH, HB, LL) (nI 8) = (nI (V 2), (V, m, P, kt, HH, HB, LL)) := e_count (by decide)
theorem e_countK {k : Nat} (h : 1 ≤ k ∧ k ≤ 3) : opCount (V, m, P, kt, HH, HB, LL) (nI k) = (nI (cntN (V 0) (fun j => TV V j 1 == k - 1)), (V, m, P, kt, HH, HB, LL)) := by
  rw [e_count (by omega)]; unfold cnV; rw [if_neg (by omega), if_pos h.2]
theorem e_countR {k : Nat} (h : 9 ≤ k ∧ k ≤ 14) : opCount (V, m, P, kt, HH, HB, LL) (nI k) = (nI (V (k - 6)), (V, m, P, kt, HH, HB, LL)) := by
  rw [e_count (by omega)]; unfold cnV; rw [if_neg (by omega), if_neg (by omega), if_neg (by omega), if_neg (by omega), if_neg (by omega), if_neg (by omega), if_pos h.2, show 2 + k - 8 = k - 6 by omega]
theorem e_allowed {c d r w : Nat} (hc : c < 5) (hd : d < 6) (hr : r < 10) (hw : w < 2) : opAllowed (V, m, P, kt, HH, HB, LL) (nI c) (nI d) (nI r) (nI w) = (bI (decide (lstT (V 0) (TV V) c d ≤ r)), (V, m, P, kt, HH, HB, LL)) := by
  rw [opAllowed]; rw [inR_u (Nat.zero_le c) (show c ≤ 4 by omega) (by decide), inR_u (Nat.zero_le d) (show d ≤ 5 by omega) (by decide), inR_u (Nat.zero_le r) (show r ≤ 9 by omega) (by decide), inR_u (Nat.zero_le w) (show w ≤ 1 by omega) (by decide), toN_nI (by omega), toN_nI (by omega), toN_nI (by omega)]; simp
theorem e_allowedN {d r w : Int32} : opAllowed (V, m, P, kt, HH, HB, LL) (nI 5) d r w = (-1, (V, m, P, kt, HH, HB, LL)) := by
  rw [opAllowed]; rw [show inR (nI 5) (nI 0) (nI 4) = false from by decide +kernel]; simp
theorem e_why {c d r : Nat} (hc : c < 5) (hd : d < 6) (hr : r < 10) : opWhy (V, m, P, kt, HH, HB, LL) (nI c) (nI d) (nI r) = (rsnT (V 0) (TV V) c d r, (V, m, P, kt, HH, HB, LL)) := by
  rw [opWhy]; rw [inR_u (Nat.zero_le c) (show c ≤ 4 by omega) (by decide), inR_u (Nat.zero_le d) (show d ≤ 5 by omega) (by decide), inR_u (Nat.zero_le r) (show r ≤ 9 by omega) (by decide), toN_nI (by omega), toN_nI (by omega), toN_nI (by omega)]; simp
def leI (V : Nat → Nat) (c d : Nat) : Int32 := if lstT (V 0) (TV V) c d = 10 then -6 else nI (lstT (V 0) (TV V) c d)
theorem e_least {c d : Nat} (hc : c < 5) (hd : d < 6) : opLeast (V, m, P, kt, HH, HB, LL) (nI c) (nI d) = (leI V c d, (V, m, P, kt, HH, HB, LL)) := by
  rw [opLeast]; unfold leI; rw [inR_u (Nat.zero_le c) (show c ≤ 4 by omega) (by decide), inR_u (Nat.zero_le d) (show d ≤ 5 by omega) (by decide), toN_nI (by omega), toN_nI (by omega)]; simp
def ifN (V : Nat → Nat) (i : Nat) : Nat := 1000 + trpT (V 0 - 1) (delT (TV V) i) - trpT (V 0) (TV V)
theorem e_if {i : Nat} (hV : V 0 ≤ 24) (hi : i < V 0) : opIf (V, m, P, kt, HH, HB, LL) (nI i) = (nI (ifN V i), (V, m, P, kt, HH, HB, LL)) := by
  rw [opIf]; unfold ifN; rw [hasB_t hi (by omega), toN_nI (by omega)]; simp
theorem e_ifN (hV : V 0 ≤ 24) : opIf (V, m, P, kt, HH, HB, LL) (nI (V 0)) = (-1, (V, m, P, kt, HH, HB, LL)) := by
  rw [opIf]; rw [hasB_f (by omega)]; simp
theorem e_member {j w : Nat} (hV : V 1 ≤ 10) (hj : j < V 1) (hw : w ≤ 4) : opMember (V, m, P, kt, HH, HB, LL) (nI j) (nI w) = (nI (meV V j w), (V, m, P, kt, HH, HB, LL)) := by
  rw [opMember]; rw [hasB_t hj (by omega), inR_u (Nat.zero_le w) hw (by decide), toN_nI (by omega), toN_nI (by omega)]; simp
theorem e_memberN {w : Int32} (hV : V 1 ≤ 10) : opMember (V, m, P, kt, HH, HB, LL) (nI (V 1)) w = (-1, (V, m, P, kt, HH, HB, LL)) := by
  rw [opMember]; rw [hasB_f (by omega)]; simp
theorem e_worst : opWorst (V, m, P, kt, HH, HB, LL) = ((wbF V (V 0)).1, (V, m, P, kt, HH, HB, LL)) := rfl
theorem e_best {z : Nat} (h1 : 1 ≤ z) (h2 : z ≤ 9) : opBest (V, m, P, kt, HH, HB, LL) (nI z) = (nI (bwF V z 5).1, (V, m, P, kt, HH, HB, LL)) := by
  rw [opBest]; rw [inR_u h1 h2 (by decide), toN_nI (by omega)]; simp
-- changes
abbrev psS (V U : Nat → Nat) (m : Nat) (P : Nat → Nat) (kt : Nat) (HH : Nat → Nat → Nat) (HB : Nat → Bool) (LL : Nat → Nat → Nat) : Sig := (U, m, P, pushN kt, pushH HH kt V, HB, LL)
theorem e_addP {l k c d z : Nat} (hl : l < 5) (hl0 : 0 < l) (hk : k = 0) (hc : c ≤ 5) (hd : d ≤ 6) (hz : 1 ≤ z ∧ z ≤ 9) : opAdd (V, m, P, kt, HH, HB, LL) (nI l) (nI k) (nI c) (nI d) (nI z) = (-5, (V, m, P, kt, HH, HB, LL)) := by
  rw [opAdd]; rw [inR_u (Nat.zero_le l) (show l ≤ 4 by omega) (by decide), inR_u (Nat.zero_le c) hc (by decide), inR_u (Nat.zero_le d) hd (by decide), inR_u (Nat.zero_le k) (show k ≤ 2 by omega) (by decide), inR_u hz.1 hz.2 (by decide), toN_nI (by omega), toN_nI (by omega)]
  rw [if_neg (by decide), if_neg (by decide), if_pos ⟨hk, hl0⟩]
theorem e_addF {l k c d z : Nat} (hl : l < 5) (hk2 : k ≤ 2) (hk : ¬ (k = 0 ∧ 0 < l)) (hc : c ≤ 5) (hd : d ≤ 6) (hz : 1 ≤ z ∧ z ≤ 9) (h : V 0 = 24) : opAdd (V, m, P, kt, HH, HB, LL) (nI l) (nI k) (nI c) (nI d) (nI z) = (-4, (V, m, P, kt, HH, HB, LL)) := by
  rw [opAdd]; rw [inR_u (Nat.zero_le l) (show l ≤ 4 by omega) (by decide), inR_u (Nat.zero_le c) hc (by decide), inR_u (Nat.zero_le d) hd (by decide), inR_u (Nat.zero_le k) hk2 (by decide), inR_u hz.1 hz.2 (by decide), toN_nI (by omega), toN_nI (by omega)]
  rw [if_neg (by decide), if_neg (by decide), if_neg hk, if_pos h]
theorem e_add {l k c d z : Nat} (hl : l < 5) (hk2 : k ≤ 2) (hk : ¬ (k = 0 ∧ 0 < l)) (hc : c ≤ 5) (hd : d ≤ 6) (hz : 1 ≤ z ∧ z ≤ 9) (h : V 0 ≠ 24) : opAdd (V, m, P, kt, HH, HB, LL) (nI l) (nI k) (nI c) (nI d) (nI z) = (nI (V 0), psS V (addV V l k c d z) m P kt HH HB LL) := by
  rw [opAdd]; rw [inR_u (Nat.zero_le l) (show l ≤ 4 by omega) (by decide), inR_u (Nat.zero_le c) hc (by decide), inR_u (Nat.zero_le d) hd (by decide), inR_u (Nat.zero_le k) hk2 (by decide), inR_u hz.1 hz.2 (by decide), toN_nI (by omega), toN_nI (by omega), toN_nI (by omega), toN_nI (by omega), toN_nI (by omega)]
  rw [if_neg (by decide), if_neg (by decide), if_neg hk, if_neg h]
theorem e_strike {i : Nat} (hV : V 0 ≤ 24) (hi : i < V 0) : opStrike (V, m, P, kt, HH, HB, LL) (nI i) = (nI (V 0 - 1), psS V (strV V i) m P kt HH HB LL) := by
  rw [opStrike]; rw [hasB_t hi (by omega), toN_nI (by omega)]; simp
theorem e_strikeN (hV : V 0 ≤ 24) : opStrike (V, m, P, kt, HH, HB, LL) (nI (V 0)) = (-1, (V, m, P, kt, HH, HB, LL)) := by
  rw [opStrike]; rw [hasB_f (by omega)]; simp
theorem e_seal {i z : Nat} (hV : V 0 ≤ 24) (hi : i < V 0) (hz : 1 ≤ z ∧ z ≤ 9) : opSeal (V, m, P, kt, HH, HB, LL) (nI i) (nI z) = (nI (TV V i 4), psS V (updN V (9 + 5 * i + 4) z) m P kt HH HB LL) := by
  rw [opSeal]; unfold TV; rw [hasB_t hi (by omega), inR_u hz.1 hz.2 (by decide), toN_nI (by omega), toN_nI (by omega)]; simp
theorem e_sealN {z : Int32} (hV : V 0 ≤ 24) : opSeal (V, m, P, kt, HH, HB, LL) (nI (V 0)) z = (-1, (V, m, P, kt, HH, HB, LL)) := by
  rw [opSeal]; rw [hasB_f (by omega)]; simp
theorem e_moveP {i l : Nat} (hV : V 0 ≤ 24) (hi : i < V 0) (hl : l < 5) (h : TV V i 1 = 0 ∧ 0 < l) : opMove (V, m, P, kt, HH, HB, LL) (nI i) (nI l) = (-5, (V, m, P, kt, HH, HB, LL)) := by
  rw [opMove]; rw [hasB_t hi (by omega), inR_u (Nat.zero_le l) (show l ≤ 4 by omega) (by decide), toN_nI (by omega), toN_nI (by omega)]
  rw [if_neg (by decide), if_pos h]
theorem e_move {i l : Nat} (hV : V 0 ≤ 24) (hi : i < V 0) (hl : l < 5) (h : ¬ (TV V i 1 = 0 ∧ 0 < l)) : opMove (V, m, P, kt, HH, HB, LL) (nI i) (nI l) = (nI (TV V i 0), psS V (updN V (9 + 5 * i + 0) l) m P kt HH HB LL) := by
  rw [opMove]; rw [hasB_t hi (by omega), inR_u (Nat.zero_le l) (show l ≤ 4 by omega) (by decide), toN_nI (by omega), toN_nI (by omega)]
  rw [if_neg (by decide), if_neg h]; rfl
theorem e_moveN {l : Int32} (hV : V 0 ≤ 24) : opMove (V, m, P, kt, HH, HB, LL) (nI (V 0)) l = (-1, (V, m, P, kt, HH, HB, LL)) := by
  rw [opMove]; rw [hasB_f (by omega)]; simp
theorem e_tidy : opTidy (V, m, P, kt, HH, HB, LL) = (nI (tdK 25 V).1, psS V (tdK 25 V).2 m P kt HH HB LL) := rfl
theorem e_joinF {c r : Nat} (hc : c < 5) (hr : r < 10) (h : V 1 = 10) : opJoin (V, m, P, kt, HH, HB, LL) (nI c) (nI r) = (-4, (V, m, P, kt, HH, HB, LL)) := by
  rw [opJoin]; rw [inR_u (Nat.zero_le c) (show c ≤ 4 by omega) (by decide), inR_u (Nat.zero_le r) (show r ≤ 9 by omega) (by decide)]
  rw [if_neg (by decide), if_neg (by decide), if_pos h]
theorem e_join {c r : Nat} (hc : c < 5) (hr : r < 10) (h : V 1 ≠ 10) : opJoin (V, m, P, kt, HH, HB, LL) (nI c) (nI r) = (nI (V 1), psS V (jnV V c r) m P kt HH HB LL) := by
  rw [opJoin]; rw [inR_u (Nat.zero_le c) (show c ≤ 4 by omega) (by decide), inR_u (Nat.zero_le r) (show r ≤ 9 by omega) (by decide), toN_nI (by omega), toN_nI (by omega)]
  rw [if_neg (by decide), if_neg (by decide), if_neg h]
theorem e_leave {i : Nat} (hV : V 1 ≤ 10) (hi : i < V 1) : opLeave (V, m, P, kt, HH, HB, LL) (nI i) = (nI (V (129 + 4 * i + 2)), psS V (lvV V i) m P kt HH HB LL) := by
  rw [opLeave]; rw [hasB_t hi (by omega), toN_nI (by omega)]; simp
theorem e_leaveN (hV : V 1 ≤ 10) : opLeave (V, m, P, kt, HH, HB, LL) (nI (V 1)) = (-1, (V, m, P, kt, HH, HB, LL)) := by
  rw [opLeave]; rw [hasB_f (by omega)]; simp
theorem e_rank {i r : Nat} (hV : V 1 ≤ 10) (hi : i < V 1) (hr : r < 10) : opRank (V, m, P, kt, HH, HB, LL) (nI i) (nI r) = (nI (V (129 + 4 * i + 1)), psS V (updN V (129 + 4 * i + 1) r) m P kt HH HB LL) := by
  rw [opRank]; rw [hasB_t hi (by omega), inR_u (Nat.zero_le r) (show r ≤ 9 by omega) (by decide), toN_nI (by omega), toN_nI (by omega)]; simp
theorem e_rankN {r : Int32} (hV : V 1 ≤ 10) : opRank (V, m, P, kt, HH, HB, LL) (nI (V 1)) r = (-1, (V, m, P, kt, HH, HB, LL)) := by
  rw [opRank]; rw [hasB_f (by omega)]; simp
theorem e_act {i d : Nat} (hV : V 1 ≤ 10) (hi : i < V 1) (hd : d < 6) : opAct (V, m, P, kt, HH, HB, LL) (nI i) (nI d) = (rsnT (V 0) (TV V) (V (129 + 4 * i)) d (V (129 + 4 * i + 1)), psS V (acV V i (rsnT (V 0) (TV V) (V (129 + 4 * i)) d (V (129 + 4 * i + 1)))) m P kt HH HB LL) := by
  rw [opAct]; rw [hasB_t hi (by omega), inR_u (Nat.zero_le d) (show d ≤ 5 by omega) (by decide), toN_nI (by omega), toN_nI (by omega)]
  rw [if_neg (by decide)]; rfl
theorem e_actN {d : Int32} (hV : V 1 ≤ 10) : opAct (V, m, P, kt, HH, HB, LL) (nI (V 1)) d = (-1, (V, m, P, kt, HH, HB, LL)) := by
  rw [opAct]; rw [hasB_f (by omega)]; simp
theorem e_undo0 (h : kt = 0) : opUndo (V, m, P, kt, HH, HB, LL) = (-5, (V, m, P, kt, HH, HB, LL)) := by
  rw [opUndo]; rw [if_pos h]
theorem ps_top (hk : kt ≤ 6) (U : Nat → Nat) : pushH HH kt U (pushN kt - 1) = U := by
  unfold pushH pushN
  by_cases h : kt = 6
  · simp [h]
  · simp [h]
theorem ps_pos : pushN kt ≠ 0 := by unfold pushN; split <;> omega
/-- what was just done is undone -/
theorem e_undo (hk : kt ≤ 6) {U : Nat → Nat} : opUndo (psS V U m P kt HH HB LL) = (nI (pushN kt - 1), (V, m, P, pushN kt - 1, pushH HH kt V, HB, LL)) := by
  rw [psS, opUndo, if_neg ps_pos, ps_top hk]
end EQ
