/-! What a change does to the numbers that the law goes by. -/
/-- what a law's own change leaves: the class's numbers anew, the law's count beside them -/
def ChR (kA : Nat → ClassId) (m : Nat) (P : Nat → Nat) (HB : Nat → Bool) (LL : Nat → Nat → Nat) (dd t : Nat) (S2 : Sig) (X2 : va_W) : Prop :=
  ∃ (U : Nat → Nat) (kt2 : Nat) (HH2 : Nat → Nat → Nat) (g2 : Nat → Int32), S2 = (U, m, P, kt2, HH2, HB, LL) ∧ InvS S2 ∧ LI U g2 t ∧ X2 = [(dd, .inl (kA 0, 2, .inl g2))]
theorem inv_of {op : Int32 × Sig} {v : Int32} {S2 : Sig} (h : InvS op.2) (e : op = (v, S2)) : InvS S2 := by subst e; exact h
theorem li_up {V : Nat → Nat} {g : Nat → Int32} {t : Nat} (h : LI V g t) : LI V g (t + 1) := by
  obtain ⟨h0, h1, h2, h3, h4⟩ := h
  exact ⟨h0, h1, h2, by omega, by omega⟩
theorem li_cong {V U : Nat → Nat} {g : Nat → Int32} {t : Nat} (h : LI V g t) (e : ∀ q, 1 ≤ q → (q < 9 ∨ 129 ≤ q) → U q = V q) : LI U g (t + 1) := by
  obtain ⟨h0, h1, h2, h3, h4⟩ := h
  have e2 : U 2 = V 2 := e 2 (by omega) (by omega)
  have e3 : rfS U = rfS V := sumN_cong (fun k hk => e (3 + k) (by omega) (by omega))
  have e4 : dnS U = dnS V := by
    unfold dnS; rw [e 1 (by omega) (by omega)]
    exact sumN_cong (fun j _ => e _ (by omega) (by omega))
  exact ⟨by rw [e2]; exact h0, by rw [e3]; exact h1, by rw [e2, e4]; exact h2, by rw [e2]; omega, by rw [e3]; omega⟩
theorem li_add {V : Nat → Nat} {g : Nat → Int32} {t l k c d z : Nat} (h : LI V g t) (hV : V 0 < 24) : LI (addV V l k c d z) g (t + 1) := by
  refine li_cong h (fun q h1 h2 => ?_)
  unfold addV
  rw [if_neg (by omega), if_neg (by omega), if_neg (by omega), if_neg (by omega), if_neg (by omega), if_neg (by omega)]
theorem str_oth {V : Nat → Nat} {i q : Nat} (hV : V 0 ≤ 24) (h1 : 1 ≤ q) (h2 : q < 9 ∨ 129 ≤ q) : strV V i q = V q := by
  unfold strV
  rcases Nat.eq_zero_or_pos (V 0) with z | z
  · rw [if_neg (by omega)]
    by_cases c : 9 + 5 * (V 0 - 1) ≤ q ∧ q < 9 + 5 * (V 0 - 1) + 5
    · omega
    · rw [if_neg c, if_neg (by omega)]
  · rw [if_neg (by omega), if_neg (by omega), if_neg (by omega)]
theorem li_str {V : Nat → Nat} {g : Nat → Int32} {t i : Nat} (h : LI V g t) (hV : V 0 ≤ 24) : LI (strV V i) g (t + 1) := li_cong h (fun _ h1 h2 => str_oth hV h1 h2)
theorem li_upd {V : Nat → Nat} {g : Nat → Int32} {t i w z : Nat} (h : LI V g t) (hV : V 0 ≤ 24) (hi : i < V 0) (hw : w < 5) : LI (updN V (9 + 5 * i + w) z) g (t + 1) := by
  refine li_cong h (fun q h1 h2 => ?_)
  unfold updN; rw [if_neg (by omega)]
theorem li_mem {V : Nat → Nat} {g : Nat → Int32} {t i r : Nat} (h : LI V g t) : LI (updN V (129 + 4 * i + 1) r) g (t + 1) := by
  obtain ⟨h0, h1, h2, h3, h4⟩ := h
  have e : ∀ q, q ≠ 129 + 4 * i + 1 → updN V (129 + 4 * i + 1) r q = V q := fun q hq => by unfold updN; rw [if_neg hq]
  have e2 : updN V (129 + 4 * i + 1) r 2 = V 2 := e 2 (by omega)
  have e3 : rfS (updN V (129 + 4 * i + 1) r) = rfS V := sumN_cong (fun k hk => e (3 + k) (by omega))
  have e4 : dnS (updN V (129 + 4 * i + 1) r) = dnS V := by
    unfold dnS; rw [e 1 (by omega)]
    exact sumN_cong (fun j _ => e _ (by omega))
  exact ⟨by rw [e2]; exact h0, by rw [e3]; exact h1, by rw [e2, e4]; exact h2, by rw [e2]; omega, by rw [e3]; omega⟩
theorem li_join {V : Nat → Nat} {g : Nat → Int32} {t c r : Nat} (h : LI V g t) : LI (jnV V c r) g (t + 1) := by
  obtain ⟨h0, h1, h2, h3, h4⟩ := h
  have e : ∀ q, q ≠ 1 → ¬ (129 + 4 * V 1 ≤ q ∧ q < 129 + 4 * V 1 + 4) → jnV V c r q = V q := fun q hq hq2 => by
    unfold jnV updN; rw [if_neg (by omega), if_neg (by omega), if_neg (by omega), if_neg (by omega), if_neg hq]
  have e1 : jnV V c r 1 = V 1 + 1 := by
    unfold jnV updN; rw [if_neg (by omega), if_neg (by omega), if_neg (by omega), if_neg (by omega), if_pos rfl]
  have e2 : jnV V c r 2 = V 2 := e 2 (by omega) (by omega)
  have e3 : rfS (jnV V c r) = rfS V := sumN_cong (fun k hk => e (3 + k) (by omega) (by omega))
  have e4 : dnS (jnV V c r) = dnS V := by
    unfold dnS; rw [e1, sumN_succ]
    have z : dnF (jnV V c r) (V 1) = 0 := by
      unfold dnF jnV updN; rw [if_neg (by omega), if_pos rfl]
    rw [z, Nat.add_zero]
    exact sumN_cong (fun j hj => e _ (by omega) (by omega))
  exact ⟨by rw [e2]; exact h0, by rw [e3]; exact h1, by rw [e2, e4]; exact h2, by rw [e2]; omega, by rw [e3]; omega⟩
theorem sum_skip {f : Nat → Nat} {i : Nat} : ∀ {n : Nat}, sumN (n - 1) (fun j => f (if j < i then j else j + 1)) ≤ sumN n f
  | 0 => Nat.le_refl _
  | n + 1 => by
    rw [Nat.add_sub_cancel, sumN_succ]
    rcases Nat.eq_zero_or_pos n with z | z
    · subst z; exact Nat.zero_le _
    · obtain ⟨k, rfl⟩ : ∃ k, n = k + 1 := ⟨n - 1, by omega⟩
      have ih := sum_skip (f := f) (i := i) (n := k + 1)
      rw [Nat.add_sub_cancel] at ih
      rw [sumN_succ]
      by_cases c : k < i
      · -- all before are themselves
        have e : ∀ m, m ≤ k → sumN m (fun j => f (if j < i then j else j + 1)) = sumN m f := fun m hm => sumN_cong (fun j hj => by rw [if_pos (by omega)])
        rw [e k (Nat.le_refl k), if_pos c]
        exact Nat.le_trans (Nat.le_of_eq (sumN_succ k f).symm) (Nat.le_add_right _ _)
      · rw [if_neg c]; omega
theorem li_leave {V : Nat → Nat} {g : Nat → Int32} {t i : Nat} (h : LI V g t) (hi : i < V 1) : LI (lvV V i) g (t + 1) := by
  obtain ⟨h0, h1, h2, h3, h4⟩ := h
  have e : ∀ q, q ≠ 1 → q < 129 → lvV V i q = V q := fun q hq hq2 => by
    unfold lvV zrG; rw [if_neg hq, if_neg (by omega), if_neg (by omega)]
  have e2 : lvV V i 2 = V 2 := e 2 (by omega) (by omega)
  have e3 : rfS (lvV V i) = rfS V := sumN_cong (fun k hk => e (3 + k) (by omega) (by omega))
  have e4 : dnS (lvV V i) ≤ dnS V := by
    have : dnS (lvV V i) = sumN (V 1 - 1) (fun j => dnF V (if j < i then j else j + 1)) := by
      unfold dnS
      show sumN (V 1 - 1) _ = _
      refine sumN_cong (fun j hj => ?_)
      unfold dnF lvV zrG
      rw [if_neg (by omega), if_neg (by omega)]
      by_cases c : j < i
      · rw [if_neg (by omega), if_pos c]
      · rw [if_pos (by omega), if_neg c]; congr 1
    rw [this]; exact sum_skip
  exact ⟨by rw [e2]; exact h0, by rw [e3]; exact h1, by rw [e2]; omega, by rw [e2]; omega, by rw [e3]; omega⟩
-- an act
def acU (V : Nat → Nat) (a b : Nat) : Nat → Nat := fun q => if q = a then V q + 1 else if q = b then V q + 1 else V q
theorem upd2 {V : Nat → Nat} {a b : Nat} (h : a ≠ b) : updN (updN V b (V b + 1)) a (updN V b (V b + 1) a + 1) = acU V a b := by
  funext q; unfold updN acU
  by_cases c : q = a
  · subst c; rw [if_pos rfl, if_neg h, if_pos rfl]
  · rw [if_neg c, if_neg c]
    by_cases d : q = b
    · subst d; rw [if_pos rfl]
    · rw [if_neg d, if_neg d]
theorem au_A {V : Nat → Nat} {i : Nat} : acV V i (-6) = acU V 2 (129 + 4 * i + 2) := by
  rw [← ac_2 (rs := -6) rfl]; exact upd2 (by omega)
theorem au_B {V : Nat → Nat} {i : Nat} : acV V i (nI 100) = acU V 8 (129 + 4 * i + 3) := by
  rw [← ac_8 (rs := nI 100) (nI_ne6 (by decide)) rfl]; exact upd2 (by omega)
theorem au_C {V : Nat → Nat} {i j : Nat} (hj : j < 24) (hl : TV V j 0 < 5) : acV V i (nI j) = acU V (3 + TV V j 0) (129 + 4 * i + 3) := by
  rw [← ac_j (rs := nI j) rfl (nI_ne6 (by omega)) (fun e => absurd ((nI_eq (by omega) (by decide)).mp e) (by omega)) (toN_nI (by omega))]; exact upd2 (by omega)
theorem au_a {V : Nat → Nat} {a b : Nat} : acU V a b a = V a + 1 := by unfold acU; rw [if_pos rfl]
theorem au_o {V : Nat → Nat} {a b q : Nat} (h1 : q ≠ a) (h2 : q ≠ b) : acU V a b q = V q := by unfold acU; rw [if_neg h1, if_neg h2]
theorem au_b {V : Nat → Nat} {a b : Nat} (h : b ≠ a) : acU V a b b = V b + 1 := by unfold acU; rw [if_neg h, if_pos rfl]
theorem sum_one {n i : Nat} {f g : Nat → Nat} (hi : i < n) (e : ∀ j, j < n → f j = g j + (if j = i then 1 else 0)) : sumN n f = sumN n g + 1 := by
  rw [sumN_cong (g := fun j => g j + (if j = i then 1 else 0)) e, sumN_add]
  have : ∀ k, sumN k (fun j => if j = i then 1 else 0) = if i < k then 1 else 0 := by
    intro k
    induction k with
    | zero => rfl
    | succ k ih =>
      rw [sumN_succ, ih]
      by_cases c : i < k
      · rw [if_pos c, if_neg (by omega), if_pos (by omega)]
      · by_cases d : k = i
        · rw [if_neg c, if_pos d, if_pos (by omega)]
        · rw [if_neg c, if_neg d, if_neg (by omega)]
  rw [this, if_pos hi]
theorem li_done {V : Nat → Nat} {g : Nat → Int32} {t i : Nat} (h : LI V g t) (hi : i < V 1) : LI (acU V 2 (129 + 4 * i + 2)) (upd g 0 (nI (V 2 + 1))) (t + 1) := by
  obtain ⟨h0, h1, h2, h3, h4⟩ := h
  have e2 : acU V 2 (129 + 4 * i + 2) 2 = V 2 + 1 := au_a
  have e3 : rfS (acU V 2 (129 + 4 * i + 2)) = rfS V := sumN_cong (fun k hk => au_o (by omega) (by omega))
  have e4 : dnS (acU V 2 (129 + 4 * i + 2)) = dnS V + 1 := by
    unfold dnS; rw [au_o (q := 1) (by omega) (by omega)]
    refine sum_one hi (fun j _ => ?_)
    unfold dnF acU
    by_cases c : j = i
    · subst c; rw [if_neg (by omega), if_pos rfl, if_pos rfl]
    · rw [if_neg (by omega), if_neg (by omega), if_neg c]; rfl
  refine ⟨by rw [e2, upd_s], ?_, by rw [e2, e4]; omega, by rw [e2]; omega, by rw [e3]; omega⟩
  rw [upd_n (by decide), e3]; exact h1
theorem li_ref {V : Nat → Nat} {g : Nat → Int32} {t i a : Nat} (h : LI V g t) (ha : 3 ≤ a ∧ a ≤ 8) : LI (acU V a (129 + 4 * i + 3)) (upd g 1 (nI (rfS V + 1))) (t + 1) := by
  obtain ⟨h0, h1, h2, h3, h4⟩ := h
  have e2 : acU V a (129 + 4 * i + 3) 2 = V 2 := au_o (by omega) (by omega)
  have e3 : rfS (acU V a (129 + 4 * i + 3)) = rfS V + 1 := by
    unfold rfS
    refine sum_one (i := a - 3) (by omega) (fun k hk => ?_)
    unfold rfF acU
    by_cases c : k = a - 3
    · rw [if_pos (by omega), if_pos c]
    · rw [if_neg (by omega), if_neg (by omega), if_neg c]; rfl
  have e4 : dnS (acU V a (129 + 4 * i + 3)) = dnS V := by
    unfold dnS; rw [au_o (q := 1) (by omega) (by omega)]
    exact sumN_cong (fun j _ => au_o (by omega) (by omega))
  refine ⟨?_, by rw [upd_s, e3], by rw [e2, e4]; exact h2, by rw [e2]; omega, by rw [e3]; omega⟩
  rw [upd_n (by decide), e2]; exact h0
theorem rf_at {V : Nat → Nat} {k : Nat} (hk : 3 ≤ k ∧ k ≤ 8) : V k ≤ rfS V := by
  have h1 : sumN (k - 3 + 1) (rfF V) ≤ rfS V := rf_le (by omega)
  have h2 : rfF V (k - 3) ≤ sumN (k - 3 + 1) (rfF V) := Nat.le_add_left _ _
  unfold rfF at h2
  rw [show 3 + (k - 3) = k by omega] at h2
  exact Nat.le_trans h2 h1
-- numbers behind a change
theorem tv_upd {V : Nat → Nat} {i w x : Nat} : TV (updN V (9 + 5 * i + w) x) i w = x := by unfold TV updN; rw [if_pos rfl]
theorem tv_oth {V : Nat → Nat} {i w u x : Nat} (hw : w < 5) (hu : u < 5) (h : u ≠ w) : TV (updN V (9 + 5 * i + w) x) i u = TV V i u := by unfold TV updN; rw [if_neg (by omega)]
theorem up_0 {V : Nat → Nat} {i w x : Nat} : updN V (9 + 5 * i + w) x 0 = V 0 := by unfold updN; rw [if_neg (by omega)]
theorem fi_no {V : Nat → Nat} (h : ¬ fiN V < V 0) : cntN (V 0) (idB V) = 0 := by
  have hs := fstB_spec (idB V) (V 0)
  have hl := fstB_le (idB V) (V 0)
  have e : fstB (V 0) (idB V) = V 0 := by unfold fiN at h; omega
  have : cntN (V 0) (idB V) = cntN (V 0) (fun _ => false) := sumN_cong (fun j hj => by rw [hs.2 j (by omega)])
  rw [this]
  exact Eq.trans (sumN_cong (fun _ _ => rfl)) sumN_zero
theorem fi_some {V : Nat → Nat} (h : 0 < cntN (V 0) (idB V)) : fiN V < V 0 := by
  apply Classical.byContradiction
  intro c; rw [fi_no c] at h; omega
theorem trp_cong {n : Nat} {T T2 : Nat → Nat → Nat} (h : ∀ j, j < n → ∀ w, w < 5 → T2 j w = T j w) : trpT n T2 = trpT n T := by
  have hf : ∀ j, j < n → ∀ c d, fitT T2 j c d = fitT T j c d := fun j hj c d => by unfold fitT; rw [h j hj 2 (by omega), h j hj 3 (by omega)]
  have hp : ∀ c d, permT n T2 c d = permT n T c d := fun c d => anyN_cong (fun j hj => by rw [h j hj 1 (by omega), hf j hj])
  have hh : ∀ b, b < n → ∀ c d, holdT n T2 b c d = holdT n T b c d := fun b hb c d => by
    unfold holdT; rw [hf b hb]
    congr 2
    refine anyN_cong (fun w hw => ?_)
    unfold liftT; rw [h w hw 1 (by omega), h w hw 0 (by omega), h w hw 4 (by omega), h b hb 0 (by omega), h b hb 4 (by omega), hf w hw]
  have hl : ∀ c d, lstT n T2 c d = lstT n T c d := fun c d => by
    unfold lstT; rw [hp]
    split
    · exact maxN_cong (fun j hj => by rw [h j hj 1 (by omega), hh j hj, h j hj 4 (by omega)])
    · rfl
  exact sumN_cong (fun q _ => by rw [hl])
theorem trp_str {V : Nat → Nat} {i : Nat} : trpT (strV V i 0) (TV (strV V i)) = trpT (V 0 - 1) (delT (TV V) i) := by
  show trpT (V 0 - 1) _ = _
  exact trp_cong (fun j hj w hw => str_TV hj hw)
theorem id_trp {V : Nat → Nat} {i : Nat} (hV : V 0 ≤ 24) (hW : WfT (V 0) (TV V)) (hi : i < V 0) (h : idB V i = true) : trpT (V 0 - 1) (delT (TV V) i) = trpT (V 0) (TV V) := by
  unfold idB at h
  rw [idle_eq hW hi (by omega)] at h
  exact of_decide_eq_true h
/-- tidying up, all of it -/
theorem td_all : ∀ (f : Nat) (V : Nat → Nat), V 0 < f → V 0 ≤ 24 → WfT (V 0) (TV V) → (tdK f V).1 ≤ V 0 ∧ (tdK f V).2 0 = V 0 - (tdK f V).1 ∧ cntN ((tdK f V).2 0) (idB (tdK f V).2) = 0 ∧ trpT ((tdK f V).2 0) (TV (tdK f V).2) = trpT (V 0) (TV V) ∧ (0 < cntN (V 0) (idB V) → 1 ≤ (tdK f V).1) ∧ ∀ q, 1 ≤ q → (q < 9 ∨ 129 ≤ q) → (tdK f V).2 q = V q
  | 0, V, h, _, _ => absurd h (Nat.not_lt_zero _)
  | f + 1, V, h, hV, hW => by
    by_cases c : fiN V < V 0
    · rw [td_s h c, Nat.add_sub_cancel]
      have h0 : strV V (fiN V) 0 = V 0 - 1 := rfl
      obtain ⟨i1, i2, i3, i4, i5, i6⟩ := td_all f (strV V (fiN V)) (by rw [h0]; omega) (by rw [h0]; omega) (WfT_str hW)
      rw [h0] at i1 i2
      have hid : idB V (fiN V) = true := (fstB_spec (idB V) (V 0)).1 c
      refine ⟨by show (tdK f (strV V (fiN V))).1 + 1 ≤ V 0; omega, by show (tdK f (strV V (fiN V))).2 0 = V 0 - ((tdK f (strV V (fiN V))).1 + 1); omega, i3, ?_, fun _ => Nat.le_add_left _ _, fun q h1 h2 => (i6 q h1 h2).trans (str_oth hV h1 h2)⟩
      exact i4.trans (trp_str.trans (id_trp hV hW c hid))
    · rw [td_e c]
      exact ⟨Nat.zero_le _, by show V 0 = V 0 - 0; omega, fi_no c, rfl, fun g => absurd (fi_some g) c, fun _ _ _ => rfl⟩
theorem ru_0 {V : Nat → Nat} {i : Nat} : ruV V i 0 = nI (TV V i 0) := ru_lt (by decide)
theorem ru_4 {V : Nat → Nat} {i : Nat} : ruV V i 4 = nI (TV V i 4) := ru_lt (by decide)
theorem mA3 {V : Nat → Nat} {i : Nat} : dnF (acU V 2 (129 + 4 * i + 2)) i = V (129 + 4 * i + 2) + 1 := au_b (by omega)
theorem mA4 {V : Nat → Nat} {i : Nat} : acU V 2 (129 + 4 * i + 2) (129 + 4 * i + 3) = V (129 + 4 * i + 3) := au_o (by omega) (by omega)
theorem mR3 {V : Nat → Nat} {i a : Nat} (h : a ≤ 8) : dnF (acU V a (129 + 4 * i + 3)) i = V (129 + 4 * i + 2) := au_o (by omega) (by omega)
theorem mR4 {V : Nat → Nat} {i a : Nat} (h : a ≤ 8) : acU V a (129 + 4 * i + 3) (129 + 4 * i + 3) = V (129 + 4 * i + 3) + 1 := au_b (by omega)
theorem au_1 {V : Nat → Nat} {a b : Nat} (ha : 2 ≤ a) (hb : 129 ≤ b) : acU V a b 1 = V 1 := au_o (by omega) (by omega)
