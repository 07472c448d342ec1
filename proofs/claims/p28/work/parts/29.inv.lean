/-! What stays so behind every call. -/
theorem inv_hi {V U : Nat → Nat} (h : InvV V) (h0 : U 0 ≤ 24) (hW : WfT (U 0) (TV U)) (e : ∀ q, q = 1 ∨ 129 ≤ q → U q = V q) : InvV U := by
  obtain ⟨_, _, h3, h4⟩ := h
  refine ⟨h0, hW, by rw [e 1 (Or.inl rfl)]; exact h3, fun j hj => ?_⟩
  rw [e 1 (Or.inl rfl)] at hj
  rw [e _ (by omega), e _ (by omega)]; exact h4 j hj
theorem inv_lo {V U : Nat → Nat} (h : InvV V) (e : ∀ q, q = 0 ∨ (9 ≤ q ∧ q < 129) → U q = V q) (h1 : U 1 ≤ 10) (h2 : ∀ j, j < U 1 → U (129 + 4 * j) < 5 ∧ U (129 + 4 * j + 1) < 10) : InvV U := by
  obtain ⟨g1, g2, _, _⟩ := h
  refine ⟨by rw [e 0 (Or.inl rfl)]; exact g1, ?_, h1, h2⟩
  rw [e 0 (Or.inl rfl)]
  intro j hj
  have q : ∀ w, w < 5 → TV U j w = TV V j w := fun w hw => by unfold TV; exact e _ (by omega)
  rw [q 0 (by omega), q 1 (by omega), q 2 (by omega), q 3 (by omega), q 4 (by omega)]
  exact g2 j hj
theorem inv_rec {V U : Nat → Nat} {m m2 kt : Nat} {P P2 : Nat → Nat} {H L : Nat → Nat → Nat} {B : Nat → Bool} (h : InvS (V, m, P, kt, H, B, L)) (hU : InvV U) (hm : m2 ≤ 60) (hw : wfP m2 P2) : InvS (U, m2, P2, pushN kt, pushH H kt V, B, L) := by
  obtain ⟨h1, _, _, h4, h5, h6⟩ := h
  refine ⟨hU, hm, hw, ?_, fun i hi => ?_, h6⟩
  · unfold pushN; split <;> omega
  · unfold pushN at hi; unfold pushH
    by_cases c : kt = 6
    · rw [if_pos c] at hi ⊢
      by_cases d : i = 5
      · rw [if_pos d]; exact h1
      · rw [if_neg d]; exact h5 _ (by omega)
    · rw [if_neg c] at hi ⊢
      by_cases d : i = kt
      · rw [if_pos d]; exact h1
      · rw [if_neg d]; exact h5 _ (by omega)
theorem inv_add {V : Nat → Nat} {l k c d z : Nat} (h : InvV V) (hV : V 0 < 24) (hn : l < 5 ∧ k < 3 ∧ c ≤ 5 ∧ d ≤ 6 ∧ 1 ≤ z ∧ z ≤ 9) : InvV (addV V l k c d z) := by
  refine inv_hi h (by show V 0 + 1 ≤ 24; omega) (WfT_app h.2.1 hn) (fun q hq => ?_)
  unfold addV
  rw [if_neg (by omega), if_neg (by omega), if_neg (by omega), if_neg (by omega), if_neg (by omega), if_neg (by omega)]
theorem inv_str {V : Nat → Nat} {i : Nat} (h : InvV V) : InvV (strV V i) := by
  have h0 := h.1
  refine inv_hi h (by show V 0 - 1 ≤ 24; omega) (WfT_str h.2.1) (fun q hq => ?_)
  unfold strV
  rw [if_neg (by omega), if_neg (by omega), if_neg (by omega)]
theorem inv_td : ∀ (f : Nat) (V : Nat → Nat), InvV V → InvV (tdK f V).2
  | 0, V, h => h
  | f + 1, V, h => by
    rw [tdK]
    split
    · exact inv_td f _ (inv_str h)
    · exact h
theorem inv_upd {V : Nat → Nat} {i w x : Nat} (h : InvV V) (hi : i < V 0) (hw : w < 5) (hx : (w = 0 ∧ x < 5) ∨ (w = 4 ∧ 1 ≤ x ∧ x ≤ 9)) (h0 : w = 0 → TV V i 1 = 0 → x = 0 ∨ True) : InvV (updN V (9 + 5 * i + w) x) := by
  have hV := h.1
  refine inv_hi h (by unfold updN; rw [if_neg (by omega)]; exact hV) ?_ (fun q hq => by unfold updN; rw [if_neg (by omega)])
  have e0 : updN V (9 + 5 * i + w) x 0 = V 0 := by unfold updN; rw [if_neg (by omega)]
  rw [e0]
  intro j hj
  have g := h.2.1 j hj
  have e : ∀ v, v < 5 → ¬ (j = i ∧ v = w) → TV (updN V (9 + 5 * i + w) x) j v = TV V j v := fun v hv c => by unfold TV updN; rw [if_neg (by omega)]
  have e1 : TV (updN V (9 + 5 * i + w) x) i w = x := by unfold TV updN; rw [if_pos rfl]
  by_cases c : j = i
  · subst c
    rcases hx with ⟨rfl, hx⟩ | ⟨rfl, hx⟩
    · rw [e1, e 1 (by omega) (by omega), e 2 (by omega) (by omega), e 3 (by omega) (by omega), e 4 (by omega) (by omega)]; omega
    · rw [e1, e 1 (by omega) (by omega), e 2 (by omega) (by omega), e 3 (by omega) (by omega), e 0 (by omega) (by omega)]; omega
  · rw [e 0 (by omega) (by omega), e 1 (by omega) (by omega), e 2 (by omega) (by omega), e 3 (by omega) (by omega), e 4 (by omega) (by omega)]; exact g
theorem inv_join {V : Nat → Nat} {c r : Nat} (h : InvV V) (hM : V 1 < 10) (hc : c < 5) (hr : r < 10) : InvV (jnV V c r) := by
  have e : ∀ q, q ≠ 1 → ¬ (129 + 4 * V 1 ≤ q ∧ q < 129 + 4 * V 1 + 4) → jnV V c r q = V q := fun q hq hq2 => by
    unfold jnV updN; rw [if_neg (by omega), if_neg (by omega), if_neg (by omega), if_neg (by omega), if_neg hq]
  refine inv_lo h (fun q hq => e q (by omega) (by omega)) (by rw [sz_jn.2.1]; omega) (fun j hj => ?_)
  rw [sz_jn.2.1] at hj
  by_cases d : j = V 1
  · subst d
    have e1 : jnV V c r (129 + 4 * V 1) = c := by unfold jnV updN; simp
    have e2 : jnV V c r (129 + 4 * V 1 + 1) = r := by unfold jnV updN; simp
    rw [e1, e2]; exact ⟨hc, hr⟩
  · rw [e _ (by omega) (by omega), e _ (by omega) (by omega)]; exact h.2.2.2 j (by omega)
theorem inv_leave {V : Nat → Nat} {i : Nat} (h : InvV V) (hi : i < V 1) : InvV (lvV V i) := by
  have h1 := h.2.2.1
  refine inv_lo h (fun q hq => ?_) (by show V 1 - 1 ≤ 10; omega) (fun j hj => ?_)
  · unfold lvV zrG; rw [if_neg (by omega), if_neg (by omega), if_neg (by omega)]
  · have hj : j < V 1 - 1 := hj
    have e3 : ∀ w, w < 4 → lvV V i (129 + 4 * j + w) = if i ≤ j then V (129 + 4 * (j + 1) + w) else V (129 + 4 * j + w) := by
      intro w hw
      unfold lvV zrG; rw [if_neg (by omega), if_neg (by omega)]
      by_cases c : i ≤ j
      · rw [if_pos (by omega), if_pos c]; congr 1; omega
      · rw [if_neg (by omega), if_neg c]
    have a := e3 0 (by omega)
    rw [Nat.add_zero, Nat.add_zero, Nat.add_zero] at a
    rw [a, e3 1 (by omega)]
    split
    · exact h.2.2.2 (j + 1) (by omega)
    · exact h.2.2.2 j (by omega)
theorem inv_rank {V : Nat → Nat} {i r : Nat} (h : InvV V) (hi : i < V 1) (hr : r < 10) : InvV (updN V (129 + 4 * i + 1) r) := by
  have e : ∀ q, q ≠ 129 + 4 * i + 1 → updN V (129 + 4 * i + 1) r q = V q := fun q hq => by unfold updN; rw [if_neg hq]
  refine inv_lo h (fun q hq => e q (by omega)) (by rw [e 1 (by omega)]; exact h.2.2.1) (fun j hj => ?_)
  rw [e 1 (by omega)] at hj
  rw [e (129 + 4 * j) (by omega)]
  by_cases c : j = i
  · subst c
    refine ⟨(h.2.2.2 j hj).1, ?_⟩
    unfold updN; rw [if_pos rfl]; exact hr
  · rw [e _ (by omega)]; exact h.2.2.2 j hj
theorem acX_or (rs : Int32) : acX rs = 2 ∨ acX rs = 3 := by unfold acX; split <;> omega
theorem inv_act {V : Nat → Nat} {i : Nat} {rs : Int32} (h : InvV V) (hi : i < V 1) (hr : rs = -6 ∨ rs = nI 100 ∨ ∃ j, j < V 0 ∧ rs = nI j) : InvV (acV V i rs) := by
  have hV := h.1
  have hw : 2 ≤ acW V rs ∧ acW V rs < 9 := by
    unfold acW
    rcases hr with r | r | ⟨j, hj, r⟩
    · rw [if_pos r]; omega
    · rw [if_neg (by rw [r]; decide), if_pos (by rw [r, n100b])]; omega
    · rw [if_neg (by rw [r]; exact nI_ne6 (by omega)), n100b, if_neg (by rw [r, nI_eq (by omega) (by omega)]; omega), r, toN_nI (by omega)]
      have := (h.2.1 j hj).1; omega
  have hx := acX_or rs
  have e : ∀ q, q ≠ acW V rs → q ≠ 129 + 4 * i + acX rs → acV V i rs q = V q := fun q h1 h2 => by unfold acV updN; rw [if_neg h1, if_neg h2]
  refine inv_lo h (fun q hq => e q (by omega) (by omega)) (by rw [e 1 (by omega) (by omega)]; exact h.2.2.1) (fun j hj => ?_)
  rw [e 1 (by omega) (by omega)] at hj
  rw [e _ (by omega) (by omega), e _ (by omega) (by omega)]; exact h.2.2.2 j hj
theorem inv_rd {m : Nat} {P : Nat → Nat} (hm : m ≤ 60) : ∀ (k p t : Nat) (U : Nat → Nat), p ≤ m + 1 → m < p + k → (p < m → (wrK m P k p t).1 = -6 ∧ U 0 + nrK m P k p ≤ 24) → InvV U → InvV (rdK m P k p U)
  | 0, _, _, _, _, _, _, h => h
  | k + 1, p, t, U, hp, hk, hs, h => by
    rw [rdK]
    by_cases c : p < m
    · rw [if_pos c]
      obtain ⟨h1, h2⟩ := hs c
      obtain ⟨s1, s2, s3, s4, s5⟩ := ok_step hm (by omega) hk h1
      obtain ⟨v0, v1, v2, v3, v4⟩ := ok_vals s2
      have n1 : 1 ≤ nrK m P (k + 1) p := by rw [s4]; omega
      refine inv_rd hm k _ (t + 1) _ (by have := whl_ge m P p; omega) (by have := whl_ge m P p; omega) (fun q => ?_) (inv_add h (by omega) ⟨v0.1, v1.1, v2.1, v3.1, v4.1, v4.2.1⟩)
      have q2 : p + whl m P p < m := by omega
      refine ⟨(s5 q2).2, ?_⟩
      rw [if_pos q2, Nat.add_sub_cancel] at s4
      show U 0 + 1 + nrK m P k (p + whl m P p + 1) ≤ 24
      omega
    · rw [if_neg c]; exact h
theorem sg_by {X : Nat} : ∀ (f k : Nat), f + k = 8 → sgF X f k ≠ 0 → ∀ j, k ≤ j → j < sgF X f k → btwB (byB X j) 33 126 = true
  | 0, k, e, _, j, h1, h2 => by rw [sgF] at h2; omega
  | f + 1, k, e, h, j, h1, h2 => by
    rw [sgF] at h h2
    by_cases c : X / 2 ^ (k * 8) = 0
    · rw [if_pos c] at h2; omega
    · rw [if_neg c] at h h2
      by_cases d : btwB (byB X k) 33 126 = true
      · rw [if_pos d] at h h2
        rcases Nat.lt_or_ge k j with x | x
        · exact sg_by f (k + 1) (by omega) h j x h2
        · rw [show j = k by omega]; exact d
      · rw [if_neg d] at h; exact absurd rfl h
theorem inv_put {X m : Nat} {P : Nat → Nat} (h : wfP m P) (hn : sgF X 8 0 ≠ 0) : wfP (m + sgF X 8 0) (putP X m P (sgF X 8 0)) := by
  intro j hj
  unfold putP
  by_cases c : m ≤ j
  · rw [if_pos (by omega)]
    have := sg_by 8 0 rfl hn (sgF X 8 0 - 1 - (j - m)) (Nat.zero_le _) (by omega)
    unfold btwB at this; simp at this; omega
  · rw [if_neg (by omega)]; exact h j (by omega)
theorem tN {x : Int32} {a b : Nat} (h : inR x (nI a) (nI b) = true) (ha : a < 2 ^ 31 := by decide) (hb : b < 2 ^ 31 := by decide) : a ≤ toN x ∧ toN x ≤ b := by
  obtain ⟨j, h1, h2, _, h4⟩ := inR_ex h hb ha
  rw [h4]; exact ⟨h1, h2⟩
theorem hN' {x : Int32} {n : Nat} (h : hasB n x = true) (hn : n < 2 ^ 31) : toN x < n := by
  obtain ⟨j, h1, _, h3⟩ := hasB_ex h hn
  rw [h3]; exact h1
theorem bf {b : Bool} (h : ¬ b = false) : b = true := by cases b <;> simp_all
theorem i_add {S : Sig} {l k c d z : Int32} (h : InvS S) : InvS (opAdd S l k c d z).2 := by
  obtain ⟨V, m, P, kt, H, B, L⟩ := S
  unfold opAdd; dsimp only
  split
  · exact h
  split
  · exact h
  split
  · exact h
  split
  · exact h
  rename_i h1 h2 _ h4
  have g1 := bf h1; have g2 := bf h2
  rw [Bool.and_eq_true, Bool.and_eq_true] at g1
  rw [Bool.and_eq_true] at g2
  have := h.1.1
  have a1 := tN g1.1; have a2 := tN g1.2.1; have a3 := tN g1.2.2; have a4 := tN g2.1; have a5 := tN g2.2
  exact inv_rec h (inv_add h.1 (by omega) (by omega)) h.2.1 h.2.2.1
theorem i_strike {S : Sig} {x : Int32} (h : InvS S) : InvS (opStrike S x).2 := by
  obtain ⟨V, m, P, kt, H, B, L⟩ := S
  unfold opStrike; dsimp only
  split
  · exact h
  exact inv_rec h (inv_str h.1) h.2.1 h.2.2.1
theorem i_seal {S : Sig} {x z : Int32} (h : InvS S) : InvS (opSeal S x z).2 := by
  obtain ⟨V, m, P, kt, H, B, L⟩ := S
  unfold opSeal; dsimp only
  split
  · exact h
  split
  · exact h
  rename_i h1 h2
  have := h.1.1
  have a1 := hN' (bf h1) (by omega); have a2 := tN (bf h2)
  exact inv_rec h (inv_upd h.1 a1 (by omega) (Or.inr ⟨rfl, a2.1, a2.2⟩) (fun _ _ => Or.inr trivial)) h.2.1 h.2.2.1
theorem i_move {S : Sig} {x l : Int32} (h : InvS S) : InvS (opMove S x l).2 := by
  obtain ⟨V, m, P, kt, H, B, L⟩ := S
  unfold opMove; dsimp only
  split
  · exact h
  split
  · exact h
  rename_i h1 h2
  have g1 := bf h1
  rw [Bool.and_eq_true] at g1
  have := h.1.1
  have a1 := hN' g1.1 (by omega); have a2 := tN g1.2
  exact inv_rec h (inv_upd h.1 a1 (by omega) (Or.inl ⟨rfl, by omega⟩) (fun _ _ => Or.inr trivial)) h.2.1 h.2.2.1
theorem i_read {S : Sig} (h : InvS S) : InvS (opRead S).2 := by
  obtain ⟨V, m, P, kt, H, B, L⟩ := S
  unfold opRead; dsimp only
  split
  · exact h
  split
  · exact h
  rename_i h1 h2
  have h1 : (wrK m P 61 0 0).1 = -6 := Classical.not_not.mp h1
  have hm := h.2.1
  exact inv_rec h (inv_rd hm 61 0 0 V (by omega) (by omega) (fun _ => ⟨h1, by omega⟩) h.1) (by omega) (fun j q => absurd q (Nat.not_lt_zero j))
theorem i_tidy {S : Sig} (h : InvS S) : InvS (opTidy S).2 := by
  obtain ⟨V, m, P, kt, H, B, L⟩ := S
  exact inv_rec h (inv_td 25 V h.1) h.2.1 h.2.2.1
theorem i_join {S : Sig} {c r : Int32} (h : InvS S) : InvS (opJoin S c r).2 := by
  obtain ⟨V, m, P, kt, H, B, L⟩ := S
  unfold opJoin; dsimp only
  split
  · exact h
  split
  · exact h
  split
  · exact h
  rename_i h1 h2 h3
  have a1 := tN (bf h1); have a2 := tN (bf h2)
  have := h.1.2.2.1
  exact inv_rec h (inv_join h.1 (by omega) (by omega) (by omega)) h.2.1 h.2.2.1
theorem i_leave {S : Sig} {x : Int32} (h : InvS S) : InvS (opLeave S x).2 := by
  obtain ⟨V, m, P, kt, H, B, L⟩ := S
  unfold opLeave; dsimp only
  split
  · exact h
  rename_i h1
  have := h.1.2.2.1
  exact inv_rec h (inv_leave h.1 (hN' (bf h1) (by omega))) h.2.1 h.2.2.1
theorem i_rank {S : Sig} {x r : Int32} (h : InvS S) : InvS (opRank S x r).2 := by
  obtain ⟨V, m, P, kt, H, B, L⟩ := S
  unfold opRank; dsimp only
  split
  · exact h
  split
  · exact h
  rename_i h1 h2
  have := h.1.2.2.1
  have a2 := tN (bf h2)
  exact inv_rec h (inv_rank h.1 (hN' (bf h1) (by omega)) (by omega)) h.2.1 h.2.2.1
theorem i_act {S : Sig} {x d : Int32} (h : InvS S) : InvS (opAct S x d).2 := by
  obtain ⟨V, m, P, kt, H, B, L⟩ := S
  unfold opAct; dsimp only
  split
  · exact h
  rename_i h1
  have g1 := bf h1
  rw [Bool.and_eq_true] at g1
  have := h.1.2.2.1
  exact inv_rec h (inv_act h.1 (hN' g1.1 (by omega)) (rsn_cases h.1.2.1)) h.2.1 h.2.2.1
theorem i_put {S : Sig} {X : Nat} (h : InvS S) : InvS (opPut S X).2 := by
  obtain ⟨V, m, P, kt, H, B, L⟩ := S
  unfold opPut; dsimp only
  split
  · exact h
  split
  · exact h
  rename_i h1 h2
  exact ⟨h.1, by omega, inv_put h.2.2.1 h1, h.2.2.2⟩
theorem i_wipe {S : Sig} (h : InvS S) : InvS (opWipe S).2 := by
  obtain ⟨V, m, P, kt, H, B, L⟩ := S
  exact ⟨h.1, Nat.zero_le _, fun j q => absurd q (Nat.not_lt_zero j), h.2.2.2⟩
theorem i_undo {S : Sig} (h : InvS S) : InvS (opUndo S).2 := by
  obtain ⟨V, m, P, kt, H, B, L⟩ := S
  unfold opUndo; dsimp only
  split
  · exact h
  have := h.2.2.2.1
  exact ⟨h.2.2.2.2.1 _ (by omega), h.2.1, h.2.2.1, by omega, fun i hi => h.2.2.2.2.1 i (by omega), h.2.2.2.2.2⟩
theorem i_save {S : Sig} {x : Int32} (h : InvS S) : InvS (opSave S x).2 := by
  obtain ⟨V, m, P, kt, H, B, L⟩ := S
  unfold opSave; dsimp only
  split
  · exact h
  refine ⟨h.1, h.2.1, h.2.2.1, h.2.2.2.1, h.2.2.2.2.1, fun i hi hb => ?_⟩
  unfold setB at hb; unfold setL
  by_cases c : i = toN x
  · rw [if_pos c]; exact h.1
  · rw [if_neg c] at hb ⊢; exact h.2.2.2.2.2 i hi hb
theorem i_restore {S : Sig} {x : Int32} (h : InvS S) : InvS (opRestore S x).2 := by
  obtain ⟨V, m, P, kt, H, B, L⟩ := S
  unfold opRestore; dsimp only
  split
  · exact h
  split
  · exact h
  rename_i h1 h2
  have a := tN (bf h1)
  exact inv_rec h (h.2.2.2.2.2 _ (by omega) (bf h2)) h.2.1 h.2.2.1
def sig0 : Sig := (fun _ => 0, 0, fun _ => 0, 0, fun _ _ => 0, fun _ => false, fun _ _ => 0)
theorem inv0 : InvS sig0 := ⟨⟨Nat.zero_le _, fun j h => absurd h (Nat.not_lt_zero j), Nat.zero_le _, fun j h => absurd h (Nat.not_lt_zero j)⟩, Nat.zero_le _, fun j h => absurd h (Nat.not_lt_zero j), Nat.zero_le _, fun j h => absurd h (Nat.not_lt_zero j), fun i _ h => by cases h⟩
theorem cls0 (kA : Nat → ClassId) (ox os ob ot : Nat → Nat) : ClsR kA ox os ob ot sig0 (clsW kA ox os ob ot (fun _ => none) (fun _ => none) (fun _ => 0) zF (nI 0) zF zF (fun _ => 0) 0 0 ++ []) :=
  ⟨fun _ => none, fun _ => none, fun _ => 0, zF, nI 0, zF, zF, [], fun _ => none, rfl, ⟨fun j h => absurd h (Nat.not_lt_zero j), fun j h => absurd h (Nat.not_lt_zero j), fun k _ => rfl⟩, fun j h => absurd h (Nat.not_lt_zero j), List.Perm.refl _, fun i _ => rfl, fun i _ => rfl, fun i _ _ => rfl, fun i _ h => (by cases h), fun i h => absurd h (Nat.not_lt_zero i)⟩
theorem mod0 (kA : Nat → ClassId) (a : Nat → Nat) : ModR kA a sig0 (modW kA a (fun _ => 0) (fun _ => 0) (fun _ => 0) (fun _ => 0) (fun _ => 0) (fun _ => 0) 0 0 0) :=
  ⟨fun _ => 0, fun _ => 0, fun _ => 0, fun _ => 0, fun _ => 0, 0, rfl, fun i h => absurd h (Nat.not_lt_zero i), fun j h => absurd h (Nat.not_lt_zero j), fun i _ => ⟨rfl, fun h => by cases h⟩⟩
