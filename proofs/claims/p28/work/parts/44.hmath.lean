/-! What 'holds' adds up and compares, in numbers. -/
def lsF (V : Nat → Nat) (q : Nat) : Nat := 10 - lstT (V 0) (TV V) (q / 6) (q % 6)
def odF (V : Nat → Nat) (i : Nat) : Nat := cntN (V 0) (fun j => oddT (TV V) i j)
def dnF (V : Nat → Nat) (j : Nat) : Nat := V (129 + 4 * j + 2)
def rfF (V : Nat → Nat) (k : Nat) : Nat := V (3 + k)
def dnS (V : Nat → Nat) : Nat := sumN (V 1) (dnF V)
def rfS (V : Nat → Nat) : Nat := sumN 6 (rfF V)
/-- the law's own count of deeds goes with the class's; t bounds them -/
def LI (V : Nat → Nat) (g : Nat → Int32) (t : Nat) : Prop := g 0 = nI (V 2) ∧ g 1 = nI (rfS V) ∧ dnS V ≤ V 2 ∧ V 2 ≤ t ∧ rfS V ≤ t
theorem lst_max {n : Nat} {T : Nat → Nat → Nat} {c d : Nat} (hW : WfT n T) : lstT n T c d ≤ 10 := by
  unfold lstT
  split
  · rw [maxN_le]
    intro i hi
    have := hW i hi
    split <;> omega
  · exact Nat.le_refl _
theorem lst_s {V : Nat → Nat} {c d : Nat} (hd : d < 6) : sumN (6 * c + d) (lsF V) + (10 - lstT (V 0) (TV V) c d) = sumN (6 * c + (d + 1)) (lsF V) := by
  show _ = sumN (6 * c + d) (lsF V) + lsF V (6 * c + d)
  unfold lsF
  rw [show (6 * c + d) / 6 = c by omega, show (6 * c + d) % 6 = d by omega]
theorem le_ne {V : Nat → Nat} {c d : Nat} (h : ¬ leI V c d = -6) : leI V c d = nI (lstT (V 0) (TV V) c d) := by
  unfold leI at h ⊢
  by_cases e : lstT (V 0) (TV V) c d = 10
  · rw [if_pos e] at h; exact absurd rfl h
  · rw [if_neg e]
theorem le_10 {V : Nat → Nat} {c d : Nat} (hW : WfT (V 0) (TV V)) (h : leI V c d = -6) : lstT (V 0) (TV V) c d = 10 := by
  unfold leI at h
  by_cases e : lstT (V 0) (TV V) c d = 10
  · exact e
  · rw [if_neg e] at h
    have := lst_max (c := c) (d := d) hW
    exact absurd h (nI_ne6 (by omega))
theorem dc_1 {p : Prop} [Decidable p] (h : p) : nI 1 = bI (decide p) := by rw [decide_eq_true h]; rfl
theorem dc_0 {p : Prop} [Decidable p] (h : ¬ p) : nI 0 = bI (decide p) := by rw [decide_eq_false h]; rfl
theorem wy_1 {n : Nat} {T : Nat → Nat → Nat} {c d rk : Nat} (hW : WfT n T) (hrk : rk ≤ 9) (hn : n < 2 ^ 31) (h : rsnT n T c d rk = -6) : nI 1 = bI (decide (lstT n T c d ≤ rk)) := dc_1 ((rsn_6 hW hrk hn).mp h)
theorem wy_0 {n : Nat} {T : Nat → Nat → Nat} {c d rk : Nat} (hW : WfT n T) (hrk : rk ≤ 9) (hn : n < 2 ^ 31) (h : ¬ rsnT n T c d rk = -6) : nI 0 = bI (decide (lstT n T c d ≤ rk)) := dc_0 (fun q => h ((rsn_6 hW hrk hn).mpr q))
theorem bq_1 {b : Bool} (h : bI b = nI 1) : nI 1 = bI b := h.symm
theorem bq_0 {b : Bool} (h : ¬ bI b = nI 1) : nI 0 = bI b := by
  cases b
  · rfl
  · exact absurd rfl h
theorem id_s {V : Nat → Nat} {k : Nat} : nI (cntN k (idB V)) + bI (idB V k) = nI (cntN (k + 1) (idB V)) := by
  rw [cntN_succ]
  cases idB V k
  · show nI _ + nI 0 = nI (_ + 0); exact nI_add _ _
  · show nI _ + nI 1 = nI (_ + 1); exact nI_add _ _
theorem sm_le {n c k : Nat} {f : Nat → Nat} (hn : n ≤ k) (h : ∀ i, i < n → f i ≤ c) : sumN n f ≤ k * c := Nat.le_trans (sumN_le h) (Nat.mul_le_mul_right c hn)
theorem cn_le {n : Nat} {p : Nat → Bool} : cntN n p ≤ n := by
  have : cntN n p ≤ n * 1 := sumN_le (fun i _ => by split <;> omega)
  omega
theorem od_le {V : Nat → Nat} {i : Nat} : odF V i ≤ V 0 := cn_le
theorem ods_le {V : Nat → Nat} {k : Nat} (hV : V 0 ≤ 24) (hk : k ≤ V 0) : sumN k (odF V) ≤ 576 := by
  have := sm_le (f := odF V) (c := 24) (show k ≤ 24 by omega) (fun i _ => Nat.le_trans od_le hV)
  omega
theorem ods_2 {V : Nat → Nat} : sumN (V 0) (odF V) = 2 * oprT (V 0) (TV V) := opr_two (V 0) (TV V)
theorem if_1 {V : Nat → Nat} {k : Nat} (hV : V 0 ≤ 24) (hW : WfT (V 0) (TV V)) (hk : k < V 0) (h : idB V k = true) : ifN V k = 1000 := by
  unfold idB at h
  rw [idle_eq hW hk (by omega)] at h
  have := of_decide_eq_true h
  unfold ifN; rw [this]; omega
theorem kinds3 {n : Nat} {T : Nat → Nat → Nat} (hW : WfT n T) : cntN n (fun j => T j 1 == 1 - 1) + cntN n (fun j => T j 1 == 2 - 1) + cntN n (fun j => T j 1 == 3 - 1) = n := by
  have e : ∀ k, k ≤ n → cntN k (fun j => T j 1 == 0) + cntN k (fun j => T j 1 == 1) + cntN k (fun j => T j 1 == 2) = k := by
    intro k
    induction k with
    | zero => intro _; rfl
    | succ k ih =>
      intro hk
      have h := (hW k (by omega)).2.1
      have q := ih (by omega)
      rw [cntN_succ, cntN_succ, cntN_succ]
      rcases (show T k 1 = 0 ∨ T k 1 = 1 ∨ T k 1 = 2 by omega) with z | z | z <;> simp [z] <;> omega
  exact e n (Nat.le_refl n)
theorem z_shl : ∀ d, d < 6 → (0 : Int32) <<< (nI d &&& 31) = nI 0 := by decide +kernel
theorem md_b {V : Nat → Nat} {i d : Nat} (hd : d < 6) : nI (maskN d (mdP V i)) ||| (bI (decide (lstT (V 0) (TV V) (V (129 + 4 * i)) d ≤ V (129 + 4 * i + 1))) <<< (nI d &&& 31)) = nI (maskN (d + 1) (mdP V i)) := by
  by_cases h : lstT (V 0) (TV V) (V (129 + 4 * i)) d ≤ V (129 + 4 * i + 1)
  · rw [decide_eq_true h]; exact md_t hd h
  · rw [decide_eq_false h]
    show _ ||| ((0 : Int32) <<< (nI d &&& 31)) = _
    rw [z_shl d hd]; exact md_f (by omega)
theorem md_lt {V : Nat → Nat} {i d : Nat} (hd : d ≤ 6) : maskN d (mdP V i) < 2 ^ 31 :=
  Nat.lt_of_lt_of_le (maskN_lt _ _) (Nat.pow_le_pow_right (by decide) (by omega))
theorem md_6 {V : Nat → Nat} {i : Nat} : mdM V i = maskN 6 (mdP V i) := rfl
theorem rf_s {V : Nat → Nat} {w : Nat} (h : 9 ≤ w) : sumN (w - 9) (rfF V) + V (w - 6) = sumN (w + 1 - 9) (rfF V) := by
  rw [show w + 1 - 9 = (w - 9) + 1 by omega]
  show _ = sumN (w - 9) (rfF V) + V (3 + (w - 9))
  rw [show 3 + (w - 9) = w - 6 by omega]
theorem rf_le {V : Nat → Nat} {k : Nat} (hk : k ≤ 6) : sumN k (rfF V) ≤ rfS V := by
  have e : ∀ j, j ≤ 6 → ∀ i, i ≤ j → sumN i (rfF V) ≤ sumN j (rfF V) := by
    intro j
    induction j with
    | zero => intro _ i hi; rw [show i = 0 by omega]; exact Nat.le_refl _
    | succ j ih =>
      intro hj i hi
      rcases Nat.lt_or_ge i (j + 1) with c | c
      · exact Nat.le_trans (ih (by omega) i (by omega)) (Nat.le_add_right _ _)
      · rw [show i = j + 1 by omega]; exact Nat.le_refl _
  exact e 6 (Nat.le_refl 6) k hk
theorem dn_le {V : Nat → Nat} : ∀ {j k : Nat}, k ≤ j → sumN k (dnF V) ≤ sumN j (dnF V)
  | 0, k, h => by rw [show k = 0 by omega]; exact Nat.le_refl _
  | j + 1, k, h => by
    rcases Nat.lt_or_ge k (j + 1) with c | c
    · exact Nat.le_trans (dn_le (show k ≤ j by omega)) (Nat.le_add_right _ _)
    · rw [show k = j + 1 by omega]; exact Nat.le_refl _
theorem dn_at {V : Nat → Nat} {j : Nat} (h : j < V 1) : V (129 + 4 * j + 2) ≤ dnS V := by
  have h1 : sumN (j + 1) (dnF V) ≤ dnS V := dn_le (by omega)
  have h2 : dnF V j ≤ sumN (j + 1) (dnF V) := Nat.le_add_left _ _
  exact Nat.le_trans h2 h1
theorem al_0n {V : Nat → Nat} {c d k : Nat} (hW : WfT (V 0) (TV V)) (h : leI V c d = -6) (hk : k < 10) : nI 0 = bI (decide (lstT (V 0) (TV V) c d ≤ k)) := dc_0 (by rw [le_10 hW h]; omega)
theorem al_0l {V : Nat → Nat} {c d k : Nat} (h : k < lstT (V 0) (TV V) c d) : nI 0 = bI (decide (lstT (V 0) (TV V) c d ≤ k)) := dc_0 (Nat.not_le.mpr h)
theorem sb_0 {a : Nat} (h : a = 10) : nI 0 = nI (10 - a) := by subst h; rfl
theorem if_le {V : Nat → Nat} {i : Nat} : ifN V i ≤ 1300 := by
  unfold ifN
  have := trp_le (n := V 0 - 1) (T := delT (TV V) i)
  omega
theorem pr7_lt (a b : Nat) : (if a = 5 then 5 else 1) * (if b = 6 then 6 else 1) < 2 ^ 31 := by
  split <;> split <;> decide
theorem me_0 {V : Nat → Nat} {i : Nat} : meV V i 0 = V (129 + 4 * i) := by unfold meV; simp
theorem me_1 {V : Nat → Nat} {i : Nat} : meV V i 1 = V (129 + 4 * i + 1) := by unfold meV; simp
theorem me_2 {V : Nat → Nat} {i : Nat} : meV V i 2 = mdM V i := by unfold meV; simp
theorem me_3 {V : Nat → Nat} {i : Nat} : meV V i 3 = dnF V i := by unfold meV dnF; simp
theorem me_4 {V : Nat → Nat} {i : Nat} : meV V i 4 = V (129 + 4 * i + 3) := by unfold meV; simp
