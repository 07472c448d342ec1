/-! Reading: the rules of a text, one after the other; putting: the bytes of a number. -/
def TV (V : Nat → Nat) : Nat → Nat → Nat := fun j w => V (9 + 5 * j + w)
def addV (V : Nat → Nat) (l k c d s : Nat) : Nat → Nat := fun q => if q = 0 then V 0 + 1 else if q = 9 + 5 * V 0 then l else if q = 9 + 5 * V 0 + 1 then k else if q = 9 + 5 * V 0 + 2 then c else if q = 9 + 5 * V 0 + 3 then d else if q = 9 + 5 * V 0 + 4 then s else V q
def slT (m : Nat) (P : Nat → Nat) (p : Nat) : Nat := if sgn m P (p + 1) = 112 then 1 else sgn m P (p + 4) - 48
def addP (m : Nat) (P : Nat → Nat) (p : Nat) (V : Nat → Nat) : Nat → Nat := addV V (sgn m P p - 48) (kindC (sgn m P (p + 1))) (nmC (sgn m P (p + 2)) 5) (nmC (sgn m P (p + 3)) 6) (slT m P p)
def rdK (m : Nat) (P : Nat → Nat) : Nat → Nat → (Nat → Nat) → Nat → Nat
  | 0, _, V => V
  | k + 1, p, V => if p < m then rdK m P k (p + whl m P p + 1) (addP m P p V) else V
def nrK (m : Nat) (P : Nat → Nat) : Nat → Nat → Nat
  | 0, _ => 0
  | k + 1, p => if rgt m P p < whl m P p then 0 else if p + rgt m P p < m then (if sgn m P (p + rgt m P p) = 59 then nrK m P k (p + rgt m P p + 1) + 1 else 1) else 1
theorem rd_s {m k p : Nat} {P : Nat → Nat} {V : Nat → Nat} (hk : m < p + k) (h : p < m) : rdK m P k p V = rdK m P (k - 1) (p + whl m P p + 1) (addP m P p V) := by
  obtain ⟨k', rfl⟩ : ∃ k', k = k' + 1 := ⟨k - 1, by omega⟩
  rw [rdK, if_pos h, Nat.add_sub_cancel]
theorem rd_e {m k p : Nat} {P : Nat → Nat} {V : Nat → Nat} (h : m ≤ p) : rdK m P k p V = V := by
  cases k with
  | zero => rfl
  | succ k => rw [rdK, if_neg (by omega)]
theorem wr_told {m : Nat} {P : Nat → Nat} : ∀ (k p t : Nat), (wrK m P k p t).2 = t + nrK m P k p
  | 0, p, t => rfl
  | k + 1, p, t => by
    rw [wrK, nrK]
    split
    · rfl
    · split
      · split
        · rw [wr_told k]; omega
        · rfl
      · rfl
theorem nI_ne6 {a : Nat} (h : a < 2 ^ 31) : nI a ≠ -6 := by
  intro e
  have := nI_toInt h
  rw [e] at this
  have : (-6 : Int32).toInt = -6 := by decide
  omega
/-- what is so of a place where a rule is right -/
def okR (m : Nat) (P : Nat → Nat) (p : Nat) : Prop := btwB (sgn m P p) 48 52 = true ∧ kindK (sgn m P (p + 1)) ≠ 3 ∧ (sgn m P (p + 2) = 42 ∨ btwB (sgn m P (p + 2)) 48 52 = true) ∧ (sgn m P (p + 3) = 42 ∨ btwB (sgn m P (p + 3)) 48 53 = true) ∧ (sgn m P (p + 1) ≠ 112 → btwB (sgn m P (p + 4)) 49 57 = true)
theorem kind0 {c : Nat} : kindK c = 0 ↔ c = 112 := by
  unfold kindK; split
  · simp_all
  · split
    · simp_all
    · split <;> simp_all
theorem rgt_le {m p : Nat} {P : Nat → Nat} : rgt m P p ≤ 5 := by
  unfold rgt
  split
  · omega
  · split
    · omega
    · split
      · omega
      · split
        · omega
        · split <;> omega
theorem ok_rgt {m p : Nat} {P : Nat → Nat} (h : whl m P p ≤ rgt m P p) : rgt m P p = whl m P p ∧ okR m P p := by
  unfold rgt at h ⊢
  have hw : 4 ≤ whl m P p := by unfold whl; split <;> omega
  cases c0 : btwB (sgn m P p) 48 52
  · rw [c0] at h; simp at h; omega
  · rw [c0] at h
    simp only [Bool.true_eq_false, if_false] at h ⊢
    by_cases c1 : (kindK (sgn m P (p + 1)) = 3 ∨ (kindK (sgn m P (p + 1)) = 0 ∧ sgn m P p ≠ 48))
    · rw [if_pos c1] at h; omega
    · rw [if_neg c1] at h ⊢
      by_cases c2 : (sgn m P (p + 2) = 42 ∨ btwB (sgn m P (p + 2)) 48 52 = true)
      · rw [if_neg (show ¬ ¬ (sgn m P (p + 2) = 42 ∨ btwB (sgn m P (p + 2)) 48 52 = true) from fun q => q c2)] at h ⊢
        by_cases c3 : (sgn m P (p + 3) = 42 ∨ btwB (sgn m P (p + 3)) 48 53 = true)
        · rw [if_neg (show ¬ ¬ (sgn m P (p + 3) = 42 ∨ btwB (sgn m P (p + 3)) 48 53 = true) from fun q => q c3)] at h ⊢
          have k3 : kindK (sgn m P (p + 1)) ≠ 3 := fun q => c1 (Or.inl q)
          by_cases c4 : sgn m P (p + 1) = 112
          · have e1 : whl m P p = 4 := by unfold whl; rw [if_pos c4]
            rw [if_neg (by rw [kind0.mpr c4]; simp)] at h ⊢
            exact ⟨by rw [e1], c0, k3, c2, c3, fun q => absurd c4 q⟩
          · have e1 : whl m P p = 5 := by unfold whl; rw [if_neg c4]
            by_cases c5 : btwB (sgn m P (p + 4)) 49 57 = true
            · rw [if_pos ⟨fun q => c4 (kind0.mp q), c5⟩] at h ⊢
              exact ⟨by rw [e1], c0, k3, c2, c3, fun _ => c5⟩
            · rw [if_neg (fun q => c5 q.2), e1] at h; omega
        · rw [if_pos c3] at h; omega
      · rw [if_pos c2] at h; omega
theorem ok_step {m k p t : Nat} {P : Nat → Nat} (hm : m ≤ 60) (hp : p ≤ m) (hk : m < p + k) (h : (wrK m P k p t).1 = -6) : rgt m P p = whl m P p ∧ okR m P p ∧ p + whl m P p ≤ m ∧ nrK m P k p = 1 + (if p + whl m P p < m then nrK m P (k - 1) (p + whl m P p + 1) else 0) ∧ (p + whl m P p < m → sgn m P (p + whl m P p) = 59 ∧ (wrK m P (k - 1) (p + whl m P p + 1) (t + 1)).1 = -6) := by
  obtain ⟨k', rfl⟩ : ∃ k', k = k' + 1 := ⟨k - 1, by omega⟩
  rw [wrK] at h
  have hr := rgt_le (m := m) (P := P) (p := p)
  by_cases c : rgt m P p < whl m P p
  · rw [if_pos c] at h
    exact absurd h (nI_ne6 (by omega))
  · rw [if_neg c] at h
    obtain ⟨e, ok⟩ := ok_rgt (Nat.not_lt.mp c)
    have hl : p + whl m P p ≤ m := by
      obtain ⟨_, _, _, o4, o5⟩ := ok
      have g3 : p + 3 < m := by
        rcases o4 with o | o
        · exact sgn_in (P := P) (by omega)
        · exact btw_in o
      unfold whl
      split
      · omega
      · have := btw_in (o5 (by assumption)); omega
    rw [nrK, if_neg c, e, Nat.add_sub_cancel]
    rw [e] at h
    by_cases c2 : p + whl m P p < m
    · rw [if_pos c2] at h
      by_cases c3 : sgn m P (p + whl m P p) = 59
      · rw [if_pos c3] at h
        exact ⟨rfl, ok, hl, by rw [if_pos c2, if_pos c2, if_pos c3]; omega, fun _ => ⟨c3, h⟩⟩
      · rw [if_neg c3] at h
        exact absurd h (nI_ne6 (by omega))
    · exact ⟨rfl, ok, hl, by rw [if_neg c2, if_neg c2], fun q => absurd q c2⟩
/-- how many ';' there are from a place on -/
theorem semi {m : Nat} {P : Nat → Nat} (hm : m ≤ 60) : ∀ (k p t : Nat), p ≤ m → m < p + k → (wrK m P k p t).1 = -6 → nrK m P k p = 1 + cntN (m - p) (fun j => sgn m P (p + j) == 59)
  | 0, p, t, h1, h2, _ => by omega
  | k + 1, p, t, h1, h2, h => by
    obtain ⟨e, ok, hl, hn, hs⟩ := ok_step hm h1 h2 h
    rw [Nat.add_sub_cancel] at hn hs
    rw [hn]
    have none : cntN (whl m P p) (fun j => sgn m P (p + j) == 59) = 0 := by
      have z : ∀ j, j < whl m P p → (sgn m P (p + j) == 59) = false := by
        obtain ⟨o1, o2, o3, o4, o5⟩ := ok
        intro j hj
        rw [beq_eq_false_iff_ne]
        simp only [btwB, Bool.and_eq_true, decide_eq_true_eq] at o1 o3 o4 o5
        have w : j = 0 ∨ j = 1 ∨ j = 2 ∨ j = 3 ∨ (j = 4 ∧ sgn m P (p + 1) ≠ 112) := by
          unfold whl at hj; split at hj <;> omega
        rcases w with rfl | rfl | rfl | rfl | ⟨rfl, w⟩
        · rw [Nat.add_zero]; omega
        · intro q; rw [q] at o2; exact o2 (by decide)
        · omega
        · omega
        · have := o5 w; omega
      unfold cntN
      rw [sumN_cong (g := fun _ => 0) (fun i hi => if_neg (by show ¬ (sgn m P (p + i) == 59) = true; rw [z i hi]; decide)), sumN_zero]
    by_cases c : p + whl m P p < m
    · obtain ⟨s1, s2⟩ := hs c
      have hw4 : 4 ≤ whl m P p := by unfold whl; split <;> omega
      rw [if_pos c, semi hm k (p + whl m P p + 1) (t + 1) (by omega) (by omega) s2, show m - p = whl m P p + (1 + (m - (p + whl m P p + 1))) by omega, cntN_split, none, cntN_split]
      have e1 : cntN 1 (fun i => sgn m P (p + (whl m P p + i)) == 59) = 1 := by
        show 0 + (if (sgn m P (p + (whl m P p + 0)) == 59) = true then 1 else 0) = 1
        rw [Nat.add_zero, s1]; rfl
      rw [e1]
      have e2 : cntN (m - (p + whl m P p + 1)) (fun i => sgn m P (p + (whl m P p + (1 + i))) == 59) = cntN (m - (p + whl m P p + 1)) (fun j => sgn m P (p + whl m P p + 1 + j) == 59) := by
        apply cntN_cong; intro i _
        rw [show p + (whl m P p + (1 + i)) = p + whl m P p + 1 + i by omega]
      rw [e2]; omega
    · rw [if_neg c, show m - p = whl m P p by omega, none]
theorem rules_in {m : Nat} {P : Nat → Nat} (hm : m ≤ 60) (h : (wrK m P 61 0 0).1 = -6) : 1 + cntN m (fun j => P j == 59) = nrK m P 61 0 := by
  rw [semi hm 61 0 0 (by omega) (by omega) h, Nat.sub_zero]
  congr 1; apply cntN_cong; intro i hi
  rw [Nat.zero_add, sgn, if_pos hi]
theorem TV_add_old {V : Nat → Nat} {l k c d s j w : Nat} (hj : j < V 0) (hw : w < 5) : TV (addV V l k c d s) j w = TV V j w := by
  unfold TV addV
  rw [if_neg (by omega), if_neg (by omega), if_neg (by omega), if_neg (by omega), if_neg (by omega), if_neg (by omega)]
theorem TV_add_new {V : Nat → Nat} {l k c d s : Nat} : TV (addV V l k c d s) (V 0) 0 = l ∧ TV (addV V l k c d s) (V 0) 1 = k ∧ TV (addV V l k c d s) (V 0) 2 = c ∧ TV (addV V l k c d s) (V 0) 3 = d ∧ TV (addV V l k c d s) (V 0) 4 = s := by
  unfold TV addV
  refine ⟨?_, ?_, ?_, ?_, ?_⟩
  · rw [if_neg (by omega), if_pos (by omega)]
  · rw [if_neg (by omega), if_neg (by omega), if_pos (by omega)]
  · rw [if_neg (by omega), if_neg (by omega), if_neg (by omega), if_pos (by omega)]
  · rw [if_neg (by omega), if_neg (by omega), if_neg (by omega), if_neg (by omega), if_pos (by omega)]
  · rw [if_neg (by omega), if_neg (by omega), if_neg (by omega), if_neg (by omega), if_neg (by omega), if_pos (by omega)]
theorem upd_s {f : Nat → Int32} {n : Nat} {x : Int32} : upd f n x n = x := by unfold upd; rw [if_pos rfl]
theorem upd_n {f : Nat → Int32} {n j : Nat} {x : Int32} (h : j ≠ n) : upd f n x j = f j := by unfold upd; rw [if_neg h]
theorem relT_app {f : Nat → Nat → Int32} {V : Nat → Nat} {l k c d s : Nat} (h : relT f (V 0) (TV V)) : relT (appF f (V 0) l k c d s) (V 0 + 1) (TV (addV V l k c d s)) := by
  intro j hj
  rcases Nat.lt_or_ge j (V 0) with g | g
  · obtain ⟨h0, h1, h2, h3, h4, h5⟩ := h j g
    rw [TV_add_old g (by omega), TV_add_old g (by omega), TV_add_old g (by omega), TV_add_old g (by omega), TV_add_old g (by omega)]
    have n : j ≠ V 0 := by omega
    exact ⟨(upd_n n).trans h0, (upd_n n).trans h1, (upd_n n).trans h2, (upd_n n).trans h3, (upd_n n).trans h4, (upd_n n).trans h5⟩
  · have e : j = V 0 := by omega
    subst e
    obtain ⟨e0, e1, e2, e3, e4⟩ := TV_add_new (V := V) (l := l) (k := k) (c := c) (d := d) (s := s)
    rw [e0, e1, e2, e3, e4]
    exact ⟨upd_s, upd_s, upd_s, upd_s, upd_s, upd_s⟩
theorem WfT_app {V : Nat → Nat} {l k c d s : Nat} (h : WfT (V 0) (TV V)) (hn : l < 5 ∧ k < 3 ∧ c ≤ 5 ∧ d ≤ 6 ∧ 1 ≤ s ∧ s ≤ 9) : WfT (V 0 + 1) (TV (addV V l k c d s)) := by
  intro j hj
  rcases Nat.lt_or_ge j (V 0) with g | g
  · rw [TV_add_old g (by omega), TV_add_old g (by omega), TV_add_old g (by omega), TV_add_old g (by omega), TV_add_old g (by omega)]
    exact h j g
  · have e : j = V 0 := by omega
    subst e
    obtain ⟨e0, e1, e2, e3, e4⟩ := TV_add_new (V := V) (l := l) (k := k) (c := c) (d := d) (s := s)
    rw [e0, e1, e2, e3, e4]
    exact hn
theorem ok_vals {m p : Nat} {P : Nat → Nat} (h : okR m P p) : (sgn m P p - 48 < 5 ∧ 48 ≤ sgn m P p) ∧ (kindC (sgn m P (p + 1)) < 3 ∧ kindC (sgn m P (p + 1)) = kindK (sgn m P (p + 1))) ∧ (nmC (sgn m P (p + 2)) 5 ≤ 5 ∧ (sgn m P (p + 2) = 42 ∨ 48 ≤ sgn m P (p + 2))) ∧ (nmC (sgn m P (p + 3)) 6 ≤ 6 ∧ (sgn m P (p + 3) = 42 ∨ 48 ≤ sgn m P (p + 3))) ∧ (1 ≤ slT m P p ∧ slT m P p ≤ 9 ∧ (sgn m P (p + 1) ≠ 112 → 48 ≤ sgn m P (p + 4))) := by
  obtain ⟨o1, o2, o3, o4, o5⟩ := h
  simp only [btwB, Bool.and_eq_true, decide_eq_true_eq] at o1 o3 o4 o5
  refine ⟨by omega, ?_, ?_, ?_, ?_⟩
  · unfold kindC; unfold kindK at o2 ⊢
    split
    · simp_all
    · split
      · simp_all
      · split
        · simp
        · simp_all
  · unfold nmC; split <;> omega
  · unfold nmC; split <;> omega
  · unfold slT; split
    · simp_all
    · have := o5 (by assumption); omega
def byB (X k : Nat) : Nat := X / 2 ^ (k * 8) % 256
def sgF (X : Nat) : Nat → Nat → Nat
  | 0, _ => 8
  | f + 1, k => if X / 2 ^ (k * 8) = 0 then k else if btwB (byB X k) 33 126 = true then sgF X f (k + 1) else 0
def wrP (h : Nat → Int32) (X m ad e : Nat) : Nat → Int32 := fun j => if m ≤ j ∧ j < m + e then nI (byB X (ad - 1 - (j - m))) else h j
theorem byB_lt (X k : Nat) : byB X k < 256 := Nat.mod_lt _ (by decide)
theorem sg_s {X k : Nat} (h : k < 8) : sgF X (8 - k) k = if X / 2 ^ (k * 8) = 0 then k else if btwB (byB X k) 33 126 = true then sgF X (8 - (k + 1)) (k + 1) else 0 := by
  rw [show 8 - k = (8 - (k + 1)) + 1 by omega, sgF]
theorem wrP_0 (h : Nat → Int32) (X m ad : Nat) : wrP h X m ad 0 = h := by
  funext j; unfold wrP; rw [if_neg (by omega)]
theorem wrP_s (h : Nat → Int32) {X m ad e : Nat} (he : e < ad) : upd (wrP h X m ad e) (m + e) (nI (byB X (ad - e - 1))) = wrP h X m ad (e + 1) := by
  funext j; unfold upd wrP
  by_cases c : j = m + e
  · subst c; rw [if_pos rfl, if_pos (by omega)]; congr 2; omega
  · rw [if_neg c]
    by_cases c2 : m ≤ j ∧ j < m + e
    · rw [if_pos c2, if_pos (by omega)]
    · rw [if_neg c2, if_neg (by omega)]
theorem lcmp0 {X : Nat} (h : X < 2 ^ 64) : lg_cmp (lN X) (lN 0) = 0 ↔ X = 0 := by
  rw [lg_cmp_eq]
  constructor
  · intro e
    have := congrArg (fun z => z.toBitVec.toNat) e
    rw [wb_tn h, wb_tn (by decide)] at this; exact this
  · intro e; rw [e]
theorem div_lt64 {X k : Nat} (h : X < 2 ^ 64) : X / k < 2 ^ 64 := Nat.lt_of_le_of_lt (Nat.div_le_self _ _) h
theorem sh8 {X k : Nat} : X / 2 ^ (k * 8) / 2 ^ 8 = X / 2 ^ ((k + 1) * 8) := by
  rw [Nat.div_div_eq_div_mul, ← Nat.pow_add]; congr 2; omega
theorem neg1_t {n : Nat} (h : nI n - nI 1 < 0) (hn : n < 2 ^ 31) : n = 0 := by
  rcases Nat.eq_zero_or_pos n with z | z
  · exact z
  · rw [pk_sub z] at h; exact absurd h (nI_pos (by omega))
theorem neg1_f {n : Nat} (h : ¬ nI n - nI 1 < 0) : 1 ≤ n := by
  rcases Nat.eq_zero_or_pos n with z | z
  · subst z; exact absurd (by decide) h
  · exact z
theorem sub_1 (x : Int32) : x + Int32.ofInt (-1) = x - nI 1 := by
  rw [Int32.sub_eq_add_neg]; rfl
section XL
variable {p : Program} {l : Launch} {e : Env} {R : Room} {s : State} {m : MethodId} {args : Array Value} {below : List Frame} {meth : Method} {c : Code} {H : Heap} {locs : List Loc} {cells slots : Nat} {Q : State → Prop} {pc : Nat} {ls : Array Slot} {rest : List Value}
theorem xTopL {x y : Int64} (h : x = y) (kk : W p l e R s m args below meth c H locs cells slots Q (F0 m pc ls (.long y :: rest))) : W p l e R s m args below meth c H locs cells slots Q (F0 m pc ls (.long x :: rest)) := h ▸ kk
end XL
abbrev padW (kA : Nat → ClassId) (b : Nat → Nat) (h : Nat → Int32) (m : Nat) : va_W := [((b 0), .inr (1, [.ref (b 1), .int (nI m)])), ((b 1), .inl (kA 1, 60, .inl h))]
theorem whl_ge (m : Nat) (P : Nat → Nat) (p : Nat) : 4 ≤ whl m P p := by unfold whl; split <;> omega
