/-! What is tried and undone, in numbers. -/
def tw (V : Nat → Nat) (z l : Nat) : Nat := trpT (V 0 + 1) (wavT (V 0) (TV V) l z)
theorem tw_le {V : Nat → Nat} {z l : Nat} : tw V z l ≤ 300 := trp_le
theorem trp_mono {n n2 : Nat} {T T2 : Nat → Nat → Nat} (h : ∀ c d, lstT n2 T2 c d ≤ lstT n T c d) : trpT n T ≤ trpT n2 T2 := sumN_mono (fun q _ => by have := h (q / 6) (q % 6); omega)
theorem wav_fit {n l z j c d : Nat} {T : Nat → Nat → Nat} : fitT (wavT n T l z) j c d = true ↔ j = n ∨ (j ≠ n ∧ fitT T j c d = true) := by
  by_cases h : j = n
  · subst h
    obtain ⟨_, _, e2, e3, _⟩ := wav_new (n := j) (T := T) (l := l) (se := z)
    unfold fitT; rw [e2, e3]; simp
  · have : ∀ w, wavT n T l z j w = T j w := fun w => by unfold wavT; rw [if_neg h]
    unfold fitT; rw [this, this]; simp [h]
theorem wav_old2 {n l z j w : Nat} {T : Nat → Nat → Nat} (h : j ≠ n) : wavT n T l z j w = T j w := by unfold wavT; rw [if_neg h]
/-- fewer bans hold under more waivers -/
theorem holdW_iff {n b c d : Nat} {T : Nat → Nat → Nat} : holdT n T b c d = true ↔ fitT T b c d = true ∧ ∀ w, w < n → T w 1 = 2 → T w 0 ≤ T b 0 → T b 4 ≤ T w 4 → fitT T w c d = false := by
  unfold holdT
  rw [Bool.and_eq_true, Bool.not_eq_true', anyN_false]
  constructor
  · rintro ⟨h1, h2⟩
    refine ⟨h1, fun w hw a1 a2 a3 => ?_⟩
    have := h2 w hw
    rw [show liftT T w b = true by unfold liftT; simp [a1, a2, a3], Bool.true_and] at this
    exact this
  · rintro ⟨h1, h2⟩
    refine ⟨h1, fun w hw => ?_⟩
    cases e : liftT T w b
    · rfl
    · unfold liftT at e
      simp only [Bool.and_eq_true, beq_iff_eq, decide_eq_true_eq] at e
      rw [h2 w hw e.1 e.2.1 e.2.2]; rfl
theorem wav_hold {n l z b c d : Nat} {T : Nat → Nat → Nat} (hb : b < n) : holdT (n + 1) (wavT n T l z) b c d = true ↔ holdT n T b c d = true ∧ ¬ (l ≤ T b 0 ∧ T b 4 ≤ z) := by
  rw [holdW_iff, holdW_iff, fit_wav hb, wav_old hb, wav_old hb]
  obtain ⟨e0, e1, _, _, e4⟩ := wav_new (n := n) (T := T) (l := l) (se := z)
  constructor
  · rintro ⟨h1, h2⟩
    refine ⟨⟨h1, fun w hw a1 a2 a3 => ?_⟩, fun h => ?_⟩
    · have := h2 w (by omega)
      rw [wav_old hw, wav_old hw, wav_old hw, fit_wav hw] at this
      exact this a1 a2 a3
    · have := h2 n (by omega) e1 (by rw [e0]; exact h.1) (by rw [e4]; exact h.2)
      rw [show fitT (wavT n T l z) n c d = true from wav_fit.mpr (Or.inl rfl)] at this
      cases this
  · rintro ⟨⟨h1, h2⟩, h3⟩
    refine ⟨h1, fun w hw a1 a2 a3 => ?_⟩
    by_cases q : w = n
    · subst q
      rw [e0] at a2; rw [e4] at a3
      exact absurd ⟨a2, a3⟩ h3
    · have hw2 : w < n := by omega
      rw [wav_old hw2] at a1 a2 a3
      rw [fit_wav hw2]; exact h2 w hw2 a1 a2 a3
theorem wav_perm {n l z c d : Nat} {T : Nat → Nat → Nat} : permT (n + 1) (wavT n T l z) c d = permT n T c d := by
  obtain ⟨_, e1, _⟩ := wav_new (n := n) (T := T) (l := l) (se := z)
  unfold permT
  rw [anyN, e1]
  have : anyN n (fun j => wavT n T l z j 1 == 0 && fitT (wavT n T l z) j c d) = anyN n (fun j => T j 1 == 0 && fitT T j c d) := anyN_cong (fun j hj => by rw [wav_old hj, fit_wav hj])
  rw [this]; simp
theorem lst_iff2 {n c d k : Nat} {T : Nat → Nat → Nat} (hk : k ≤ 9) : lstT n T c d ≤ k ↔ permT n T c d = true ∧ ∀ b, b < n → T b 1 = 1 → holdT n T b c d = true → T b 4 ≤ k := lst_le hk
theorem wav_lst {n l z c d k : Nat} {T : Nat → Nat → Nat} (hk : k ≤ 9) : lstT (n + 1) (wavT n T l z) c d ≤ k ↔ permT n T c d = true ∧ ∀ b, b < n → T b 1 = 1 → holdT n T b c d = true → ¬ (l ≤ T b 0 ∧ T b 4 ≤ z) → T b 4 ≤ k := by
  rw [lst_le hk, wav_perm]
  obtain ⟨_, e1, _⟩ := wav_new (n := n) (T := T) (l := l) (se := z)
  constructor
  · rintro ⟨h1, h2⟩
    refine ⟨h1, fun b hb a1 a2 a3 => ?_⟩
    have := h2 b (by omega)
    rw [wav_old hb, wav_old hb] at this
    exact this a1 (wav_hold hb |>.mpr ⟨a2, a3⟩)
  · rintro ⟨h1, h2⟩
    refine ⟨h1, fun b hb a1 a2 => ?_⟩
    by_cases q : b = n
    · subst q; rw [e1] at a1; cases a1
    · have hb2 : b < n := by omega
      rw [wav_old hb2] at a1 ⊢
      obtain ⟨g1, g2⟩ := (wav_hold hb2).mp a2
      exact h2 b hb2 a1 g1 g2
theorem le_of9 {a b : Nat} (hb : b ≤ 10) (h : ∀ k, k ≤ 9 → b ≤ k → a ≤ k) (ha : a ≤ 10) : a ≤ b := by
  rcases Nat.lt_or_ge b 10 with q | q
  · exact h b (by omega) (Nat.le_refl b)
  · omega
theorem wav_max {n l z c d : Nat} {T : Nat → Nat → Nat} (hW : WfT n T) (hl : l < 5) (hz : 1 ≤ z ∧ z ≤ 9) : lstT (n + 1) (wavT n T l z) c d ≤ 10 := lst_max (WfT_wav hW hl hz)
/-- a waiver more takes nothing away -/
theorem tw_now {V : Nat → Nat} {z l : Nat} (hW : WfT (V 0) (TV V)) (hl : l < 5) (hz : 1 ≤ z ∧ z ≤ 9) : trpT (V 0) (TV V) ≤ tw V z l := by
  refine trp_mono (fun c d => le_of9 (lst_max hW) (fun k hk h => ?_) (wav_max hW hl hz))
  rw [wav_lst hk]; rw [lst_le hk] at h
  exact ⟨h.1, fun b hb a1 a2 _ => h.2 b hb a1 a2⟩
/-- nor does it farther out -/
theorem tw_out {V : Nat → Nat} {z l l2 : Nat} (hW : WfT (V 0) (TV V)) (hl : l ≤ l2) (hl2 : l2 < 5) (hz : 1 ≤ z ∧ z ≤ 9) : tw V z l2 ≤ tw V z l := by
  refine trp_mono (fun c d => le_of9 (wav_max hW hl2 hz) (fun k hk h => ?_) (wav_max hW (by omega) hz))
  rw [wav_lst hk] at h ⊢
  exact ⟨h.1, fun b hb a1 a2 a3 => h.2 b hb a1 a2 (fun q => a3 ⟨by omega, q.2⟩)⟩
/-- the best layer: none is better, those within are worse -/
theorem bw_best {V : Nat → Nat} {z : Nat} : ∀ k, (∀ l, l < k → tw V z l ≤ (bwF V z k).2) ∧ (∀ l, (bwF V z k).1 < l → l < k → tw V z l < (bwF V z k).2) ∧ (0 < k → (bwF V z k).1 < k ∧ (bwF V z k).2 = tw V z (bwF V z k).1)
  | 0 => ⟨fun l h => absurd h (Nat.not_lt_zero l), fun l _ h => absurd h (Nat.not_lt_zero l), fun h => absurd h (Nat.lt_irrefl 0)⟩
  | k + 1 => by
    obtain ⟨h1, h2, h3⟩ := bw_best (V := V) (z := z) k
    rw [bwF]
    by_cases c : (bwF V z k).2 ≤ trpT (V 0 + 1) (wavT (V 0) (TV V) k z)
    · rw [if_pos c]
      refine ⟨fun l hl => ?_, fun l ha hb => absurd (show k < l from ha) (by omega), fun _ => ⟨Nat.lt_succ_self k, rfl⟩⟩
      show tw V z l ≤ tw V z k
      rcases Nat.lt_or_ge l k with q | q
      · exact Nat.le_trans (h1 l q) c
      · rw [show l = k by omega]; exact Nat.le_refl _
    · rw [if_neg c]
      have hk0 : 0 < k := by
        rcases Nat.eq_zero_or_pos k with z0 | z0
        · subst z0; exact absurd (Nat.zero_le _) c
        · exact z0
      obtain ⟨h4, h5⟩ := h3 hk0
      refine ⟨fun l hl => ?_, fun l ha hb => ?_, fun _ => ⟨by omega, h5⟩⟩
      · rcases Nat.lt_or_ge l k with q | q
        · exact h1 l q
        · rw [show l = k by omega]; exact Nat.le_of_lt (Nat.not_le.mp c)
      · rcases Nat.lt_or_ge l k with q | q
        · exact h2 l ha q
        · rw [show l = k by omega]; exact Nat.not_le.mp c
def moI (V : Nat → Nat) (z e : Nat) : Int32 := if e = 5 then -1 else nI (tw V z e)
theorem mo_0 {V : Nat → Nat} {z : Nat} : -1 = moI V z 5 := rfl
theorem mo_s {V : Nat → Nat} {z e : Nat} (h : e < 5) : nI (tw V z e) = moI V z e := by unfold moI; rw [if_neg (by omega)]
theorem neg1 {n : Nat} (h : n < 2 ^ 31) : (-1 : Int32) < nI n := by
  rw [Int32.lt_iff_toInt_lt, nI_toInt h, show (-1 : Int32).toInt = -1 from by decide]; omega
theorem mo_lt {V : Nat → Nat} {z e : Nat} (hW : WfT (V 0) (TV V)) (hz : 1 ≤ z ∧ z ≤ 9) (he : 1 ≤ e) (he5 : e ≤ 5) : ¬ nI (tw V z (e - 1)) < moI V z e := by
  have h1 := tw_le (V := V) (z := z) (l := e - 1)
  have h2 := tw_le (V := V) (z := z) (l := e)
  unfold moI
  by_cases c : e = 5
  · rw [if_pos c]
    intro h
    have g := neg1 (n := tw V z (e - 1)) (by omega)
    rw [Int32.lt_iff_toInt_lt] at h g; omega
  · rw [if_neg c, nI_ltI (by omega) (by omega)]
    have := tw_out (V := V) (z := z) (l := e - 1) (l2 := e) hW (by omega) (by omega) hz
    omega
/-- out of the best one nothing changes -/
theorem mo_ne {V : Nat → Nat} {z e b : Nat} (hW : WfT (V 0) (TV V)) (hz : 1 ≤ z ∧ z ≤ 9) (he : 1 ≤ e) (he5 : e ≤ 5) (hb : (bwF V z 5).1 = b) (h : ¬ nI (tw V z (e - 1)) = moI V z e) : b ≤ e - 1 := by
  apply Classical.byContradiction
  intro q
  obtain ⟨h1, h2, h3⟩ := bw_best (V := V) (z := z) 5
  obtain ⟨h4, h5⟩ := h3 (by decide)
  subst hb
  have e5 : e ≠ 5 := by omega
  have a1 := tw_out (V := V) (z := z) (l := e - 1) (l2 := e) hW (by omega) (by omega) hz
  have a2 := tw_out (V := V) (z := z) (l := e) (l2 := (bwF V z 5).1) hW (by omega) h4 hz
  have a3 := h1 (e - 1) (by omega)
  rw [h5] at a3
  apply h
  rw [← mo_s (by omega), show tw V z (e - 1) = tw V z e by omega]
theorem mo_gt {V : Nat → Nat} {z e b : Nat} (he : 1 ≤ e) (he5 : e ≤ 5) (hb : (bwF V z 5).1 = b) (h : e - 1 = b) : ¬ nI (tw V z (e - 1)) ≤ moI V z e := by
  obtain ⟨h1, h2, h3⟩ := bw_best (V := V) (z := z) 5
  obtain ⟨h4, h5⟩ := h3 (by decide)
  have g1 := tw_le (V := V) (z := z) (l := e - 1)
  have g2 := tw_le (V := V) (z := z) (l := e)
  subst hb
  unfold moI
  by_cases c : e = 5
  · rw [if_pos c]
    intro q
    have g := neg1 (n := tw V z (e - 1)) (by omega)
    rw [Int32.le_iff_toInt_le] at q
    rw [Int32.lt_iff_toInt_lt] at g; omega
  · rw [if_neg c]
    have a1 := h2 e (by omega) (by omega)
    rw [h5, ← h] at a1
    intro q
    rw [Int32.le_iff_toInt_le, nI_toInt (by omega), nI_toInt (by omega)] at q; omega
theorem bw_lt {V : Nat → Nat} {z : Nat} : (bwF V z 5).1 < 5 := ((bw_best (V := V) (z := z) 5).2.2 (by decide)).1
/-- adding it is laying it -/
theorem add_tw {V : Nat → Nat} {l z : Nat} : trpT (addV V l 2 5 6 z 0) (TV (addV V l 2 5 6 z)) = tw V z l := by
  show trpT (V 0 + 1) _ = trpT (V 0 + 1) _
  refine trp_cong (fun j hj w hw => ?_)
  by_cases c : j = V 0
  · subst c
    obtain ⟨a0, a1, a2, a3, a4⟩ := TV_add_new (V := V) (l := l) (k := 2) (c := 5) (d := 6) (s := z)
    obtain ⟨b0, b1, b2, b3, b4⟩ := wav_new (n := V 0) (T := TV V) (l := l) (se := z)
    rcases (show w = 0 ∨ w = 1 ∨ w = 2 ∨ w = 3 ∨ w = 4 by omega) with rfl | rfl | rfl | rfl | rfl
    · rw [a0, b0]
    · rw [a1, b1]
    · rw [a2, b2]
    · rw [a3, b3]
    · rw [a4, b4]
  · rw [TV_add_old (by omega) hw, wav_old (by omega)]
/-- the ban whose loss allows the most -/
theorem wb_best {V : Nat → Nat} : ∀ k, k ≤ 24 → ((wbF V k).1 = -6 ∧ ∀ j, j < k → TV V j 1 ≠ 1) ∨ ∃ b, b < k ∧ TV V b 1 = 1 ∧ wbF V k = (nI b, trpT (V 0 - 1) (delT (TV V) b)) ∧ ∀ j, j < k → TV V j 1 = 1 → trpT (V 0 - 1) (delT (TV V) j) ≤ trpT (V 0 - 1) (delT (TV V) b) ∧ (trpT (V 0 - 1) (delT (TV V) j) = trpT (V 0 - 1) (delT (TV V) b) → b ≤ j)
  | 0, _ => Or.inl ⟨rfl, fun j h => absurd h (Nat.not_lt_zero j)⟩
  | k + 1, hk => by
    rw [wbF]
    rcases wb_best (V := V) k (by omega) with ⟨h1, h2⟩ | ⟨b, hb, h1, h2, h3⟩
    · by_cases c : TV V k 1 = 1
      · rw [if_pos ⟨c, Or.inl h1⟩]
        refine Or.inr ⟨k, Nat.lt_succ_self k, c, rfl, fun j hj h => ?_⟩
        rcases Nat.lt_or_ge j k with q | q
        · exact absurd h (h2 j q)
        · have e : j = k := by omega
          subst e; exact ⟨Nat.le_refl _, fun _ => Nat.le_refl _⟩
      · rw [if_neg (fun q => c q.1)]
        refine Or.inl ⟨h1, fun j hj => ?_⟩
        rcases Nat.lt_or_ge j k with q | q
        · exact h2 j q
        · rw [show j = k by omega]; exact c
    · by_cases c : TV V k 1 = 1
      · by_cases d : trpT (V 0 - 1) (delT (TV V) b) < trpT (V 0 - 1) (delT (TV V) k)
        · rw [if_pos ⟨c, Or.inr (by rw [h2]; exact d)⟩]
          refine Or.inr ⟨k, Nat.lt_succ_self k, c, rfl, fun j hj h => ?_⟩
          rcases Nat.lt_or_ge j k with q | q
          · have := (h3 j q h).1
            exact ⟨by omega, fun z => by omega⟩
          · have e : j = k := by omega
            subst e; exact ⟨Nat.le_refl _, fun _ => Nat.le_refl _⟩
        · rw [if_neg (fun q => q.2.elim (fun z => by rw [h2] at z; exact absurd z (nI_ne6 (by omega))) (fun z => by rw [h2] at z; exact d z))]
          refine Or.inr ⟨b, by omega, h1, h2, fun j hj h => ?_⟩
          rcases Nat.lt_or_ge j k with q | q
          · exact h3 j q h
          · have e : j = k := by omega
            subst e; exact ⟨by omega, fun _ => by omega⟩
      · rw [if_neg (fun q => c q.1)]
        refine Or.inr ⟨b, by omega, h1, h2, fun j hj h => ?_⟩
        rcases Nat.lt_or_ge j k with q | q
        · exact h3 j q h
        · rw [show j = k by omega] at h; exact absurd h c
theorem cn_zero {n : Nat} {p : Nat → Bool} : cntN n p = 0 ↔ ∀ j, j < n → p j = false := by
  induction n with
  | zero => exact ⟨fun _ j h => absurd h (Nat.not_lt_zero j), fun _ => rfl⟩
  | succ n ih =>
    rw [cntN_succ]
    constructor
    · intro h j hj
      have h1 : cntN n p = 0 := by omega
      rcases Nat.lt_or_ge j n with q | q
      · exact (ih.mp h1) j q
      · rw [show j = n by omega]
        cases e : p n
        · rfl
        · rw [e] at h; simp at h
    · intro h
      rw [ih.mpr (fun j hj => h j (by omega)), h n (by omega)]; rfl
theorem wb_none {V : Nat → Nat} (hV : V 0 ≤ 24) : (wbF V (V 0)).1 = -6 ↔ cntN (V 0) (fun j => TV V j 1 == 2 - 1) = 0 := by
  rw [cn_zero]
  rcases wb_best (V := V) (V 0) hV with ⟨h1, h2⟩ | ⟨b, hb, h1, h2, _⟩
  · exact ⟨fun _ j hj => by simpa using h2 j hj, fun _ => h1⟩
  · constructor
    · intro h; rw [h2] at h; exact absurd h (nI_ne6 (by omega))
    · intro h
      have := h b hb
      rw [h1] at this; cases this
theorem wb_at {V : Nat → Nat} (hV : V 0 ≤ 24) (h : ¬ (wbF V (V 0)).1 = -6) : ∃ b, b < V 0 ∧ (wbF V (V 0)).1 = nI b ∧ ∀ j, j < V 0 → TV V j 1 = 1 → ifN V j ≤ ifN V b ∧ (ifN V j = ifN V b → b ≤ j) := by
  rcases wb_best (V := V) (V 0) hV with ⟨h1, _⟩ | ⟨b, hb, h1, h2, h3⟩
  · exact absurd h1 h
  · refine ⟨b, hb, by rw [h2], fun j hj hj1 => ?_⟩
    have := h3 j hj hj1
    have q := trp_le (n := V 0) (T := TV V)
    unfold ifN
    exact ⟨by omega, fun e => this.2 (by omega)⟩
theorem im1 (x : Int32) : x + Int32.ofInt (-1) = x - nI 1 := by
  rw [Int32.sub_eq_add_neg]; rfl
theorem top_1 {e : Nat} (h : e ≤ 5) (h2 : nI e - nI 1 < 0) : e = 0 := by
  rcases Nat.eq_zero_or_pos e with z | z
  · exact z
  · rw [pk_sub (show 1 ≤ e from z), Int32.lt_iff_toInt_lt, nI_toInt (by omega), show (0 : Int32).toInt = 0 from by decide] at h2; omega
theorem top_2 {e : Nat} (h2 : ¬ nI e - nI 1 < 0) : 1 ≤ e := by
  rcases Nat.eq_zero_or_pos e with z | z
  · subst z; exact absurd (by decide) h2
  · exact z
theorem ps_lt {kt : Nat} (h : kt ≤ 6) : pushN kt - 1 < 2 ^ 31 := by unfold pushN; split <;> omega
