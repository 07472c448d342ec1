/-! More of what the charter means: by layers, reasons, triples. -/
def stgT (n : Nat) (T : Nat → Nat → Nat) (kd ly c d : Nat) : Nat := maxN n (fun j => if (T j 1 == kd && (T j 0 == ly && fitT T j c d)) = true then T j 4 else 0)
theorem maxN_succ (n : Nat) (f : Nat → Nat) : maxN (n + 1) f = max (maxN n f) (f n) := rfl
theorem fit_bit {T : Nat → Nat → Nat} {i c d : Nat} (hc : c < 5) (hd : d < 6) : mk (pfit (T i 2) (T i 3)) &&& mk (pfit c d) = 0 ↔ fitT T i c d = false := by
  rw [mk_one hc hd]
  unfold pfit fitT
  rw [show (6 * c + d) / 6 = c by omega, show (6 * c + d) % 6 = d by omega]
theorem stg_t {T : Nat → Nat → Nat} {i kd ly c d : Nat} (hc : c < 5) (hd : d < 6) (h1 : T i 1 = kd) (h2 : T i 0 = ly) (h3 : ¬ mk (pfit (T i 2) (T i 3)) &&& mk (pfit c d) = 0) : max (maxN i (fun j => if (T j 1 == kd && (T j 0 == ly && fitT T j c d)) = true then T j 4 else 0)) (T i 4) = maxN (i + 1) (fun j => if (T j 1 == kd && (T j 0 == ly && fitT T j c d)) = true then T j 4 else 0) := by
  rw [fit_bit hc hd] at h3
  have h3 : fitT T i c d = true := by simpa using h3
  rw [maxN_succ]; simp [h1, h2, h3]
theorem stg_f1 {T : Nat → Nat → Nat} {i kd ly c d : Nat} (h1 : T i 1 ≠ kd) : maxN i (fun j => if (T j 1 == kd && (T j 0 == ly && fitT T j c d)) = true then T j 4 else 0) = maxN (i + 1) (fun j => if (T j 1 == kd && (T j 0 == ly && fitT T j c d)) = true then T j 4 else 0) := by
  rw [maxN_succ]; simp [h1]
theorem stg_f2 {T : Nat → Nat → Nat} {i kd ly c d : Nat} (h1 : T i 0 ≠ ly) : maxN i (fun j => if (T j 1 == kd && (T j 0 == ly && fitT T j c d)) = true then T j 4 else 0) = maxN (i + 1) (fun j => if (T j 1 == kd && (T j 0 == ly && fitT T j c d)) = true then T j 4 else 0) := by
  rw [maxN_succ]; simp [h1]
theorem stg_f3 {T : Nat → Nat → Nat} {i kd ly c d : Nat} (hc : c < 5) (hd : d < 6) (h3 : mk (pfit (T i 2) (T i 3)) &&& mk (pfit c d) = 0) : maxN i (fun j => if (T j 1 == kd && (T j 0 == ly && fitT T j c d)) = true then T j 4 else 0) = maxN (i + 1) (fun j => if (T j 1 == kd && (T j 0 == ly && fitT T j c d)) = true then T j 4 else 0) := by
  rw [fit_bit hc hd] at h3
  rw [maxN_succ]; simp [h3]
theorem maxIf_le {n k : Nat} {p : Nat → Bool} {f : Nat → Nat} : maxN n (fun j => if p j = true then f j else 0) ≤ k ↔ ∀ i, i < n → p i = true → f i ≤ k := by
  rw [maxN_le]
  constructor
  · intro h i hi hp
    have := h i hi
    rw [if_pos hp] at this; exact this
  · intro h i hi
    by_cases hp : p i = true
    · rw [if_pos hp]; exact h i hi hp
    · rw [if_neg hp]; omega
theorem maxIf_ge {n i : Nat} {p : Nat → Bool} {f : Nat → Nat} (hi : i < n) (hp : p i = true) : f i ≤ maxN n (fun j => if p j = true then f j else 0) := maxIf_le.mp (Nat.le_refl _) i hi hp
theorem maxN_at {n : Nat} {f : Nat → Nat} (h : 0 < maxN n f) : ∃ i, i < n ∧ f i = maxN n f := by
  induction n with
  | zero => exact absurd h (Nat.lt_irrefl 0)
  | succ n ih =>
    rw [maxN_succ] at h ⊢
    rcases Nat.le_total (maxN n f) (f n) with g | g
    · exact ⟨n, by omega, by rw [Nat.max_eq_right g]⟩
    · rw [Nat.max_eq_left g] at h ⊢
      obtain ⟨i, hi, e⟩ := ih h
      exact ⟨i, by omega, e⟩
theorem maxIf_at {n : Nat} {p : Nat → Bool} {f : Nat → Nat} (h : 0 < maxN n (fun j => if p j = true then f j else 0)) : ∃ i, i < n ∧ p i = true ∧ f i = maxN n (fun j => if p j = true then f j else 0) := by
  obtain ⟨i, hi, e⟩ := maxN_at h
  refine ⟨i, hi, ?_⟩
  by_cases hp : p i = true
  · rw [if_pos hp] at e; exact ⟨hp, e⟩
  · rw [if_neg hp] at e; omega
theorem stgT_le {n : Nat} {T : Nat → Nat → Nat} {kd ly c d : Nat} (hW : WfT n T) : stgT n T kd ly c d ≤ 9 :=
  (maxIf_le (p := fun j => (T j 1 == kd && (T j 0 == ly && fitT T j c d))) (f := fun j => T j 4)).mpr (fun i hi _ => (hW i hi).2.2.2.2.2)
/-- the strongest waiver of the layers ahead of ly -/
def wvT (n : Nat) (T : Nat → Nat → Nat) (ly c d : Nat) : Nat := maxN n (fun j => if (T j 1 == 2 && (decide (T j 0 < ly) && fitT T j c d)) = true then T j 4 else 0)
theorem wv_iff {n : Nat} {T : Nat → Nat → Nat} {ly c d k : Nat} : wvT n T ly c d ≤ k ↔ ∀ i, i < n → T i 1 = 2 → T i 0 < ly → fitT T i c d = true → T i 4 ≤ k := by
  refine (maxIf_le (p := fun j => (T j 1 == 2 && (decide (T j 0 < ly) && fitT T j c d))) (f := fun j => T j 4)).trans ?_
  constructor
  · intro h i hi h1 h2 h3
    exact h i hi (by simp [h1, h2, h3])
  · intro h i hi g
    simp only [Bool.and_eq_true, decide_eq_true_eq, beq_iff_eq] at g
    exact h i hi g.1 g.2.1 g.2.2
theorem stg_iff {n : Nat} {T : Nat → Nat → Nat} {kd ly c d k : Nat} : stgT n T kd ly c d ≤ k ↔ ∀ i, i < n → T i 1 = kd → T i 0 = ly → fitT T i c d = true → T i 4 ≤ k := by
  refine (maxIf_le (p := fun j => (T j 1 == kd && (T j 0 == ly && fitT T j c d))) (f := fun j => T j 4)).trans ?_
  constructor
  · intro h i hi h1 h2 h3
    exact h i hi (by simp [h1, h2, h3])
  · intro h i hi g
    simp only [Bool.and_eq_true, beq_iff_eq] at g
    exact h i hi g.1 g.2.1 g.2.2
theorem wv_0 (n : Nat) (T : Nat → Nat → Nat) (c d : Nat) : wvT n T 0 c d = 0 := by
  apply Nat.le_zero.mp; rw [wv_iff]; intro i _ _ h _; omega
theorem wv_s (n : Nat) (T : Nat → Nat → Nat) (ly c d : Nat) : max (wvT n T ly c d) (stgT n T 2 ly c d) = wvT n T (ly + 1) c d := by
  apply Nat.le_antisymm
  · rw [Nat.max_le]; constructor
    · rw [wv_iff]; intro i hi h1 h2 h3
      exact wv_iff.mp (Nat.le_refl _) i hi h1 (by omega) h3
    · rw [stg_iff]; intro i hi h1 h2 h3
      exact wv_iff.mp (Nat.le_refl _) i hi h1 (by omega) h3
  · rw [wv_iff]; intro i hi h1 h2 h3
    rcases Nat.lt_or_ge (T i 0) ly with g | g
    · exact Nat.le_trans (wv_iff.mp (Nat.le_refl _) i hi h1 g h3) (Nat.le_max_left _ _)
    · exact Nat.le_trans (stg_iff.mp (Nat.le_refl _) i hi h1 (by omega) h3) (Nat.le_max_right _ _)
theorem wv_le {n : Nat} {T : Nat → Nat → Nat} {ly c d : Nat} (hW : WfT n T) : wvT n T ly c d ≤ 9 := by
  rw [wv_iff]; intro i hi _ _ _
  exact (hW i hi).2.2.2.2.2
/-- a ban that fits holds if no waiver of its layer or ahead of it is as strong -/
theorem hold_iff {n : Nat} {T : Nat → Nat → Nat} {b c d : Nat} (hf : fitT T b c d = true) (hp : 1 ≤ T b 4) : holdT n T b c d = true ↔ wvT n T (T b 0 + 1) c d < T b 4 := by
  unfold holdT
  rw [hf, Bool.true_and, Bool.not_eq_true', anyN_false]
  constructor
  · intro h
    have : wvT n T (T b 0 + 1) c d ≤ T b 4 - 1 := by
      rw [wv_iff]; intro i hi g1 g2 g3
      have h1 := h i hi
      simp only [liftT, g1, g3, beq_self_eq_true, Bool.true_and, Bool.and_true, Bool.and_eq_false_iff, decide_eq_false_iff_not] at h1
      omega
    omega
  · intro h i hi
    cases g : (liftT T i b && fitT T i c d)
    · rfl
    · simp only [liftT, Bool.and_eq_true, decide_eq_true_eq, beq_iff_eq] at g
      have := wv_iff.mp (Nat.le_refl (wvT n T (T b 0 + 1) c d)) i hi g.1.1 (by omega) g.2
      omega
theorem abl_none {n rk c d : Nat} {T : Nat → Nat → Nat} (hc : c < 5) (hd : d < 6) (hrk : rk ≤ 9) (h : mk (permM n T) &&& mk (pfit c d) = 0) : nI 0 = bI (decide (lstT n T c d ≤ rk)) := by
  rw [mk_one hc hd, perm_bit hc hd] at h
  rw [decide_eq_false (by rw [lst_le hrk, h]; simp)]; rfl
theorem abl_stop {n rk ly c d w : Nat} {T : Nat → Nat → Nat} (hW : WfT n T) (hrk : rk ≤ 9) (hw : w = wvT n T (ly + 1) c d) (h : max w rk < stgT n T 1 ly c d) : nI 0 = bI (decide (lstT n T c d ≤ rk)) := by
  obtain ⟨b, hb, g, e⟩ := maxIf_at (p := fun j => (T j 1 == 1 && (T j 0 == ly && fitT T j c d))) (f := fun j => T j 4) (show 0 < stgT n T 1 ly c d by omega)
  change T b 4 = stgT n T 1 ly c d at e
  simp only [Bool.and_eq_true, beq_iff_eq] at g
  have := hW b hb
  have hh : holdT n T b c d = true := by
    rw [hold_iff g.2.2 (by omega), g.2.1, ← hw]; omega
  rw [decide_eq_false]; · rfl
  rw [lst_le hrk]
  rintro ⟨_, k⟩
  have := k b hb g.1 hh
  omega
theorem abl_go {n rk ly c d w : Nat} {T : Nat → Nat → Nat} (hW : WfT n T) (hw : w = wvT n T (ly + 1) c d) (h : stgT n T 1 ly c d ≤ max w rk) (hv : ∀ b, b < n → T b 1 = 1 → T b 0 < ly → holdT n T b c d = true → T b 4 ≤ rk) : ∀ b, b < n → T b 1 = 1 → T b 0 < ly + 1 → holdT n T b c d = true → T b 4 ≤ rk := by
  intro b hb h1 h2 h3
  rcases Nat.lt_or_ge (T b 0) ly with g | g
  · exact hv b hb h1 g h3
  · have e : T b 0 = ly := by omega
    have hf : fitT T b c d = true := by
      unfold holdT at h3; rw [Bool.and_eq_true] at h3; exact h3.1
    have := hW b hb
    rw [hold_iff hf (by omega), e, ← hw] at h3
    have := stg_iff.mp (Nat.le_refl (stgT n T 1 ly c d)) b hb h1 e hf
    omega
theorem abl_end {n rk c d : Nat} {T : Nat → Nat → Nat} (hW : WfT n T) (hc : c < 5) (hd : d < 6) (hrk : rk ≤ 9) (h : ¬ mk (permM n T) &&& mk (pfit c d) = 0) (hv : ∀ b, b < n → T b 1 = 1 → T b 0 < 5 → holdT n T b c d = true → T b 4 ≤ rk) : nI 1 = bI (decide (lstT n T c d ≤ rk)) := by
  rw [mk_one hc hd, perm_bit hc hd] at h
  rw [decide_eq_true]; · rfl
  rw [lst_le hrk]
  exact ⟨by simpa using h, fun b hb h1 h2 => hv b hb h1 (hW b hb).1 h2⟩
theorem lst_le10 {n c d : Nat} {T : Nat → Nat → Nat} (hW : WfT n T) : lstT n T c d ≤ 10 := by
  unfold lstT; split
  · refine Nat.le_trans ((maxIf_le (p := fun j => (T j 1 == 1 && holdT n T j c d)) (f := fun j => T j 4)).mpr (fun i hi _ => (hW i hi).2.2.2.2.2)) (by omega)
  · omega
/-- how many triples there are from the rank z on -/
def trzT (n : Nat) (T : Nat → Nat → Nat) (z : Nat) : Nat := sumN 30 (fun q => 10 - max (lstT n T (q / 6) (q % 6)) z)
theorem trz_9 {n : Nat} {T : Nat → Nat → Nat} (hW : WfT n T) : cntN 30 (permM n T) = trzT n T 9 := by
  unfold cntN trzT
  apply sumN_cong; intro q _
  have h := lst_le10 (c := q / 6) (d := q % 6) hW
  by_cases g : lstT n T (q / 6) (q % 6) ≤ 9
  · have := ((lst_le (Nat.le_refl 9)).mp g).1
    rw [if_pos (by unfold permM; exact this)]; omega
  · have : ¬ permM n T q = true := by
      intro k; apply g
      rw [lst_le (Nat.le_refl 9)]
      exact ⟨k, fun b hb _ _ => by have := hW b hb; omega⟩
    rw [if_neg this]; omega
theorem trz_s {n z : Nat} {T : Nat → Nat → Nat} (hW : WfT n T) (hz : 1 ≤ z ∧ z ≤ 9) : trzT n T z + cntN 30 (aboveM n T (z - 1)) = trzT n T (z - 1) := by
  unfold cntN trzT
  rw [← sumN_add]
  apply sumN_cong; intro q _
  rw [aboveM_lst (by omega)]
  by_cases g : lstT n T (q / 6) (q % 6) ≤ z - 1
  · rw [if_pos (by simpa using g)]; omega
  · rw [if_neg (by simpa using g)]; omega
theorem trz_0 (n : Nat) (T : Nat → Nat → Nat) : trzT n T 0 = trpT n T := by
  unfold trzT trpT; apply sumN_cong; intro q _; rw [Nat.max_zero]
/-- the reason, found from the first rule on -/
def hitT (n : Nat) (T : Nat → Nat → Nat) (c d rk i : Nat) : Bool := (T i 1 == 1 && decide (rk < T i 4)) && holdT n T i c d
def rsF (n : Nat) (T : Nat → Nat → Nat) (c d rk : Nat) : Nat → Int32 × Nat
  | 0 => ((-6), 5)
  | i + 1 => if hitT n T c d rk i = true ∧ T i 0 < (rsF n T c d rk i).2 then (nI i, T i 0) else rsF n T c d rk i
def rsnT (n : Nat) (T : Nat → Nat → Nat) (c d rk : Nat) : Int32 := if permT n T c d = true then (rsF n T c d rk n).1 else nI 100
theorem rsF_le {n : Nat} {T : Nat → Nat → Nat} {c d rk : Nat} : ∀ i, (rsF n T c d rk i).2 ≤ 5
  | 0 => Nat.le_refl 5
  | i + 1 => by
    have := rsF_le (n := n) (T := T) (c := c) (d := d) (rk := rk) i
    rw [rsF]; split
    · rename_i h; show T i 0 ≤ 5; omega
    · exact this
theorem hold_bit {n : Nat} {T : Nat → Nat → Nat} {b c d : Nat} (hc : c < 5) (hd : d < 6) : mk (heldM n T b) &&& mk (pfit c d) = 0 ↔ holdT n T b c d = false := by
  rw [mk_one hc hd]; unfold heldM
  rw [show (6 * c + d) / 6 = c by omega, show (6 * c + d) % 6 = d by omega]
theorem rs_t {n i c d rk : Nat} {T : Nat → Nat → Nat} {o : Nat} (hc : c < 5) (hd : d < 6) (ho : o = (rsF n T c d rk i).2) (h1 : T i 1 = 1) (h2 : rk < T i 4) (h3 : T i 0 < o) (h4 : ¬ mk (heldM n T i) &&& mk (pfit c d) = 0) : rsF n T c d rk (i + 1) = (nI i, T i 0) := by
  rw [hold_bit hc hd] at h4
  have h4 : holdT n T i c d = true := by simpa using h4
  rw [rsF, if_pos]
  exact ⟨by simp [hitT, h1, h2, h4], by omega⟩
theorem rs_f {n i c d rk : Nat} {T : Nat → Nat → Nat} {o : Nat} (hc : c < 5) (hd : d < 6) (ho : o = (rsF n T c d rk i).2) (h : T i 1 ≠ 1 ∨ T i 4 ≤ rk ∨ o ≤ T i 0 ∨ mk (heldM n T i) &&& mk (pfit c d) = 0) : rsF n T c d rk (i + 1) = rsF n T c d rk i := by
  rw [rsF, if_neg]
  rintro ⟨g1, g2⟩
  simp only [hitT, Bool.and_eq_true, decide_eq_true_eq, beq_iff_eq] at g1
  rcases h with h | h | h | h
  · exact h g1.1.1
  · omega
  · omega
  · rw [hold_bit hc hd, g1.2] at h; cases h
theorem rsn_none {n c d rk : Nat} {T : Nat → Nat → Nat} (hc : c < 5) (hd : d < 6) (h : mk (permM n T) &&& mk (pfit c d) = 0) : nI 100 = rsnT n T c d rk := by
  rw [mk_one hc hd, perm_bit hc hd] at h
  unfold rsnT; rw [h]; rfl
theorem rsn_end {n c d rk : Nat} {T : Nat → Nat → Nat} (hc : c < 5) (hd : d < 6) (h : ¬ mk (permM n T) &&& mk (pfit c d) = 0) : (rsF n T c d rk n).1 = rsnT n T c d rk := by
  rw [mk_one hc hd, perm_bit hc hd] at h
  have h : permT n T c d = true := by simpa using h
  unfold rsnT; rw [if_pos h]
abbrev rulW (kA : Nat → ClassId) (a : Nat → Nat) (f : Nat → Nat → Int32) (z : Int32) : va_W := [((a 0), .inr (2, [.ref (a 1), .ref (a 2), .ref (a 3), .ref (a 4), .ref (a 5), .ref (a 6), .int z])), ((a 1), .inl (kA 0, 25, .inl (f 0))), ((a 2), .inl (kA 0, 25, .inl (f 1))), ((a 3), .inl (kA 0, 25, .inl (f 2))), ((a 4), .inl (kA 0, 25, .inl (f 3))), ((a 5), .inl (kA 0, 25, .inl (f 4))), ((a 6), .inl (kA 0, 25, .inl (f 5)))]
abbrev gldW (kA : Nat → ClassId) (b : Nat → Nat) (g : Nat → Nat → Int32) (z dn : Int32) : va_W := [((b 0), .inr (0, [.ref (b 1), .ref (b 2), .ref (b 3), .ref (b 4), .ref (b 5), .int z, .int dn])), ((b 1), .inl (kA 0, 10, .inl (g 0))), ((b 2), .inl (kA 0, 10, .inl (g 1))), ((b 3), .inl (kA 0, 10, .inl (g 2))), ((b 4), .inl (kA 0, 10, .inl (g 3))), ((b 5), .inl (kA 0, 6, .inl (g 4)))]
def appF (f : Nat → Nat → Int32) (n l kd c d s : Nat) : Nat → Nat → Int32 := fun w => match w with
  | 0 => upd (f 0) n (nI l)
  | 1 => upd (f 1) n (nI kd)
  | 2 => upd (f 2) n (nI c)
  | 3 => upd (f 3) n (nI d)
  | 4 => upd (f 4) n (nI s)
  | 5 => upd (f 5) n (mk (pfit c d))
  | _ => f w
def delF (f : Nat → Nat → Int32) (i : Nat) : Nat → Nat → Int32 := fun w => gapF (f w) i 24
def appG (g : Nat → Nat → Int32) (n c rk : Nat) : Nat → Nat → Int32 := fun w => match w with
  | 0 => upd (g 0) n (nI c)
  | 1 => upd (g 1) n (nI rk)
  | 2 => upd (g 2) n (nI 0)
  | 3 => upd (g 3) n (nI 0)
  | _ => g w
def delG (g : Nat → Nat → Int32) (i : Nat) : Nat → Nat → Int32 := fun w => if w < 4 then gapF (g w) i 9 else g w
theorem has_t {n i : Nat} (h : i < n) (hn : n < 2 ^ 31) : bI (hasB n (nI i)) = bI true := by
  unfold hasB; rw [decide_eq_true (nI_pos' (by omega)), decide_eq_true (nI_lt h hn)]; rfl
theorem inR_t {i a b : Nat} (h1 : a ≤ i) (h2 : i ≤ b) (hb : b < 2 ^ 31) : bI (inR (nI i) (nI a) (nI b)) = bI true := by
  unfold inR; rw [decide_eq_true (nI_le h1 (by omega)), decide_eq_true (nI_le h2 hb)]; rfl
