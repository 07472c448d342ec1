theorem best_off {h : Nat → Bool} {T : Nat → Nat → Nat} {lo hi : Nat} {x : Int32} (hb : BestI h T lo hi x) (hn : ∀ i, i < hi → h i = false) : BestI h T 0 hi x := by
  rcases hb with ⟨e, _⟩ | ⟨j, _, h1, _, h2, _⟩
  · exact Or.inl ⟨e, fun i _ hi => hn i hi⟩
  · rw [hn j h1] at h2; cases h2
theorem hit_none {n : Nat} {T : Nat → Nat → Nat} {c d rk : Nat} (hrk : rk ≤ 9) (h : lstT n T c d ≤ rk) : ∀ i, i < n → hitT n T c d rk i = false := by
  intro i hi
  rw [lst_le hrk] at h
  cases e : hitT n T c d rk i
  · rfl
  · simp only [hitT, Bool.and_eq_true, decide_eq_true_eq, beq_iff_eq] at e
    have := h.2 i hi e.1.1 e.2; omega
theorem pm_10 {n : Nat} {T : Nat → Nat → Nat} {c d : Nat} (hW : WfT n T) (hn : n < 2 ^ 31) (h : lstT n T c d ≠ 10) : pmM n T c d (-6) = true := by
  have e : permT n T c d = true := by
    cases e : permT n T c d
    · exact absurd ((lst_10 hW).mpr e) h
    · rfl
  obtain ⟨j, h1, h2, h3⟩ := permT_iff.mp e
  exact pmM_iff.mpr ⟨j, h1, nI_ne6 (by omega), h2, h3⟩
theorem rsn_10 {n : Nat} {T : Nat → Nat → Nat} {c d rk : Nat} (hW : WfT n T) (h : lstT n T c d = 10) : rsnT n T c d rk = nI 100 := by
  unfold rsnT; rw [if_neg (by rw [(lst_10 hW).mp h]; decide)]
def smP (V : Nat → Nat) (w i : Nat) : Nat := if w = 5 then cntN (V 0) (fun j => oddT (TV V) i j) else if w = 4 then (if idB V i = true then 1 else 0) else if TV V i 1 = w - 1 then 1 else 0
def smF (V : Nat → Nat) (w n : Nat) : Nat := sumN n (smP V w)
theorem sm_0 (V : Nat → Nat) (w : Nat) : 0 = smF V w 0 := rfl
theorem sm_5 {V : Nat → Nat} {w i : Nat} (h : w = 5) : smF V w i + cntN (V 0) (fun j => oddT (TV V) i j) = smF V w (i + 1) := by
  unfold smF; rw [sumN_succ]; conv => rhs; rw [show smP V w i = cntN (V 0) (fun j => oddT (TV V) i j) by unfold smP; rw [if_pos h]]
theorem sm_4 {V : Nat → Nat} {w i : Nat} {b : Bool} (h5 : w ≠ 5) (h4 : w = 4) (h : idM (V 0) (TV V) i = b) : smF V w i + (if b = true then 1 else 0) = smF V w (i + 1) := by
  unfold smF; rw [sumN_succ]; conv => rhs; rw [show smP V w i = (if b = true then 1 else 0) by unfold smP idB; rw [if_neg h5, if_pos h4, h]]
theorem sm_1t {V : Nat → Nat} {w i : Nat} (h5 : w ≠ 5) (h4 : w ≠ 4) (h : TV V i 1 = w - 1) : smF V w i + 1 = smF V w (i + 1) := by
  unfold smF; rw [sumN_succ]; conv => rhs; rw [show smP V w i = 1 by unfold smP; rw [if_neg h5, if_neg h4, if_pos h]]
theorem sm_1f {V : Nat → Nat} {w i : Nat} (h5 : w ≠ 5) (h4 : w ≠ 4) (h : TV V i 1 ≠ w - 1) : smF V w i + 0 = smF V w (i + 1) := by
  unfold smF; rw [sumN_succ]; conv => rhs; rw [show smP V w i = 0 by unfold smP; rw [if_neg h5, if_neg h4, if_neg h]]
def mdP (V : Nat → Nat) (i : Nat) : Nat → Bool := fun d => decide (lstT (V 0) (TV V) (V (129 + 4 * i)) d ≤ V (129 + 4 * i + 1))
theorem md_bits : ∀ d, d < 6 → ∀ m, m < 64 → nI m ||| (nI 1 <<< (nI d &&& 31)) = nI (m ||| 2 ^ d) := by decide +kernel
theorem md_t {V : Nat → Nat} {i d : Nat} (hd : d < 6) (h : lstT (V 0) (TV V) (V (129 + 4 * i)) d ≤ V (129 + 4 * i + 1)) : nI (maskN d (mdP V i)) ||| (nI 1 <<< (nI d &&& 31)) = nI (maskN (d + 1) (mdP V i)) := by
  have h1 : maskN d (mdP V i) < 64 := Nat.lt_of_lt_of_le (maskN_lt _ _) (show 2 ^ d ≤ 2 ^ 6 from Nat.pow_le_pow_right (by decide) (by omega))
  rw [md_bits d hd _ h1, maskN, if_pos (by unfold mdP; exact decide_eq_true h)]
theorem or0 (x : Int32) : x ||| nI 0 = x := by
  rw [nI_0]; apply Int32.toBitVec_inj.mp; simp
theorem md_f {V : Nat → Nat} {i d : Nat} (h : V (129 + 4 * i + 1) < lstT (V 0) (TV V) (V (129 + 4 * i)) d) : nI (maskN d (mdP V i)) ||| nI 0 = nI (maskN (d + 1) (mdP V i)) := by
  rw [or0, maskN, if_neg (by unfold mdP; rw [decide_eq_false (by omega)]; decide), Nat.or_zero]
