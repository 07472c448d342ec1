/-! The reference's numbers are the charter's: with no rule left out, with one left out, with a further waiver. -/
theorem eq_le9 {a b : Nat} (ha : a ≤ 10) (hb : b ≤ 10) (h : ∀ z, z ≤ 9 → (a ≤ z ↔ b ≤ z)) : a = b := by
  rcases Nat.lt_or_ge a b with c | c
  · have := (h a (by omega)).mp (Nat.le_refl a); omega
  · rcases Nat.lt_or_ge b a with d | d
    · have := (h b (by omega)).mpr (Nat.le_refl b); omega
    · omega
theorem pmx_iff {F : Nat → Nat} {k : Nat} : ∀ {q : Nat}, pmx F q ≤ k ↔ ∀ p, p ≤ q → F p ≤ k
  | 0 => ⟨fun h p hp => by rw [show p = 0 by omega]; exact h, fun h => h 0 (Nat.le_refl 0)⟩
  | q + 1 => by
    rw [pmx, Nat.max_le, pmx_iff (q := q)]
    constructor
    · rintro ⟨h1, h2⟩ p hp
      rcases Nat.lt_or_ge p (q + 1) with c | c
      · exact h1 p (by omega)
      · rw [show p = q + 1 by omega]; exact h2
    · intro h; exact ⟨fun p hp => h p (by omega), h _ (Nat.le_refl _)⟩
theorem stM_iff {n : Nat} {T : Nat → Nat → Nat} {c d : Nat} {bu ly : Int32} {se q k : Nat} : stM n T c d bu ly se q ≤ k ↔ (∀ p, p ≤ q → nI p = ly → se ≤ k) ∧ ∀ j, j < n → ¬ nI j = bu → T j 1 = 2 → T j 0 ≤ q → fitT T j c d = true → T j 4 ≤ k := by
  unfold stM
  rw [pmx_iff]
  have key : ∀ p, lf2 T c d bu ly se n p ≤ k ↔ (nI p = ly → se ≤ k) ∧ ∀ j, j < n → ¬ nI j = bu → T j 1 = 2 → T j 0 = p → fitT T j c d = true → T j 4 ≤ k := by
    intro p
    unfold lf2
    rw [Nat.max_le]
    refine and_congr ?_ ((maxIf_le (p := fun j => (!decide (nI j = bu) && (T j 1 == 2 && (T j 0 == p && fitT T j c d)))) (f := fun j => T j 4)).trans ?_)
    · unfold iniF; split
      · rename_i h; simp [h]
      · rename_i h; simp [h]
    · constructor
      · intro h j hj h1 h2 h3 h4
        exact h j hj (by simp [h1, h2, h3, h4])
      · intro h j hj g
        simp only [Bool.and_eq_true, Bool.not_eq_true', decide_eq_false_iff_not, beq_iff_eq] at g
        exact h j hj g.1 g.2.1 g.2.2.1 g.2.2.2
  constructor
  · intro h
    refine ⟨fun p hp e => ((key p).mp (h p hp)).1 e, fun j hj h1 h2 h3 h4 => ((key (T j 0)).mp (h _ h3)).2 j hj h1 h2 rfl h4⟩
  · rintro ⟨h1, h2⟩ p hp
    exact (key p).mpr ⟨h1 p hp, fun j hj g1 g2 g3 g4 => h2 j hj g1 g2 (by omega) g4⟩
theorem pmM_iff {n : Nat} {T : Nat → Nat → Nat} {c d : Nat} {bu : Int32} : pmM n T c d bu = true ↔ ∃ j, j < n ∧ ¬ nI j = bu ∧ T j 1 = 0 ∧ fitT T j c d = true := by
  unfold pmM
  rw [anyN_true]
  constructor
  · rintro ⟨j, hj, g⟩
    simp only [Bool.and_eq_true, Bool.not_eq_true', decide_eq_false_iff_not, beq_iff_eq] at g
    exact ⟨j, hj, g.1, g.2.1, g.2.2⟩
  · rintro ⟨j, hj, h1, h2, h3⟩
    exact ⟨j, hj, by simp [h1, h2, h3]⟩
theorem lstM_iff {n : Nat} {T : Nat → Nat → Nat} {c d : Nat} {bu ly : Int32} {se z : Nat} (hz : z ≤ 9) : lstM n T c d bu ly se ≤ z ↔ (∃ j, j < n ∧ ¬ nI j = bu ∧ T j 1 = 0 ∧ fitT T j c d = true) ∧ ∀ b, b < n → ¬ nI b = bu → T b 1 = 1 → fitT T b c d = true → stM n T c d bu ly se (T b 0) < T b 4 → T b 4 ≤ z := by
  rw [← pmM_iff]
  unfold lstM
  cases hp : pmM n T c d bu
  · simp; omega
  · rw [if_pos rfl]
    refine (maxIf_le (p := fun r => hdM n T c d bu ly se r) (f := fun r => T r 4)).trans ?_
    constructor
    · intro h
      refine ⟨rfl, fun b hb h1 h2 h3 h4 => h b hb (hd_t h1 h2 h3 h4)⟩
    · rintro ⟨_, h⟩ b hb g
      simp only [hdM, Bool.and_eq_true, Bool.not_eq_true', decide_eq_false_iff_not, decide_eq_true_eq, beq_iff_eq] at g
      exact h b hb g.1 g.2.1 g.2.2.1 g.2.2.2
theorem permT_iff {n : Nat} {T : Nat → Nat → Nat} {c d : Nat} : permT n T c d = true ↔ ∃ j, j < n ∧ T j 1 = 0 ∧ fitT T j c d = true := by
  unfold permT
  rw [anyN_true]
  constructor
  · rintro ⟨j, hj, g⟩
    simp only [Bool.and_eq_true, beq_iff_eq] at g
    exact ⟨j, hj, g.1, g.2⟩
  · rintro ⟨j, hj, h1, h2⟩
    exact ⟨j, hj, by simp [h1, h2]⟩
theorem hold_fit {n : Nat} {T : Nat → Nat → Nat} {b c d : Nat} (h : holdT n T b c d = true) : fitT T b c d = true := by
  unfold holdT at h; rw [Bool.and_eq_true] at h; exact h.1
/-- the least rank by the strongest waivers -/
theorem lstT_iff {n : Nat} {T : Nat → Nat → Nat} {c d z : Nat} (hW : WfT n T) (hz : z ≤ 9) : lstT n T c d ≤ z ↔ (∃ j, j < n ∧ T j 1 = 0 ∧ fitT T j c d = true) ∧ ∀ b, b < n → T b 1 = 1 → fitT T b c d = true → wvT n T (T b 0 + 1) c d < T b 4 → T b 4 ≤ z := by
  rw [lst_le hz, permT_iff]
  refine and_congr Iff.rfl ⟨fun h b hb h1 h2 h3 => h b hb h1 ((hold_iff h2 (hW b hb).2.2.2.2.1).mpr h3), fun h b hb h1 h2 => h b hb h1 (hold_fit h2) ((hold_iff (hold_fit h2) (hW b hb).2.2.2.2.1).mp h2)⟩
theorem le_eq {a b : Nat} (h : ∀ k, a ≤ k ↔ b ≤ k) : a = b := Nat.le_antisymm ((h b).mpr (Nat.le_refl b)) ((h a).mp (Nat.le_refl a))
theorem stM_now {n : Nat} {T : Nat → Nat → Nat} {c d q : Nat} (hn : n < 2 ^ 31) : stM n T c d (-6) (-6) 0 q = wvT n T (q + 1) c d := by
  apply le_eq; intro k
  rw [stM_iff, wv_iff]
  constructor
  · rintro ⟨_, h⟩ j hj h1 h2 h3
    exact h j hj (nI_ne6 (by omega)) h1 (by omega) h3
  · intro h
    exact ⟨fun _ _ _ => Nat.zero_le _, fun j hj _ h1 h2 h3 => h j hj h1 (by omega) h3⟩
theorem lstM_now {n : Nat} {T : Nat → Nat → Nat} {c d : Nat} (hW : WfT n T) (hn : n < 2 ^ 31) : lstM n T c d (-6) (-6) 0 = lstT n T c d := by
  refine eq_le9 (lstM_le hW) (lst_le10 hW) (fun z hz => ?_)
  rw [lstM_iff hz, lstT_iff hW hz]
  constructor
  · rintro ⟨⟨j, hj, _, h1, h2⟩, h⟩
    exact ⟨⟨j, hj, h1, h2⟩, fun b hb g1 g2 g3 => h b hb (nI_ne6 (by omega)) g1 g2 (by rw [stM_now hn]; exact g3)⟩
  · rintro ⟨⟨j, hj, h1, h2⟩, h⟩
    exact ⟨⟨j, hj, nI_ne6 (by omega), h1, h2⟩, fun b hb _ g1 g2 g3 => h b hb g1 g2 (by rw [stM_now hn] at g3; exact g3)⟩
def skp (i j : Nat) : Nat := if j < i then j else j + 1
def delT (T : Nat → Nat → Nat) (i : Nat) : Nat → Nat → Nat := fun j w => T (skp i j) w
theorem skp_all {n i : Nat} (hi : i < n) {Q : Nat → Prop} : (∀ j, j < n → j ≠ i → Q j) ↔ ∀ j, j < n - 1 → Q (skp i j) := by
  constructor
  · intro h j hj
    unfold skp; split
    · exact h j (by omega) (by omega)
    · exact h (j + 1) (by omega) (by omega)
  · intro h j hj hne
    rcases Nat.lt_or_ge j i with c | c
    · have := h j (by omega)
      unfold skp at this; rw [if_pos c] at this; exact this
    · have := h (j - 1) (by omega)
      unfold skp at this; rw [if_neg (by omega), show j - 1 + 1 = j by omega] at this; exact this
theorem skp_ex {n i : Nat} (hi : i < n) {Q : Nat → Prop} : (∃ j, j < n ∧ j ≠ i ∧ Q j) ↔ ∃ j, j < n - 1 ∧ Q (skp i j) := by
  constructor
  · rintro ⟨j, hj, hne, hq⟩
    rcases Nat.lt_or_ge j i with c | c
    · exact ⟨j, by omega, by unfold skp; rw [if_pos c]; exact hq⟩
    · exact ⟨j - 1, by omega, by unfold skp; rw [if_neg (by omega), show j - 1 + 1 = j by omega]; exact hq⟩
  · rintro ⟨j, hj, hq⟩
    unfold skp at hq
    split at hq
    · exact ⟨j, by omega, by omega, hq⟩
    · exact ⟨j + 1, by omega, by omega, hq⟩
theorem nI_ne {j i n : Nat} (hj : j < n) (hi : i < n) (hn : n < 2 ^ 31) : (¬ nI j = nI i) ↔ j ≠ i := by rw [nI_eq (by omega) (by omega)]
theorem fit_del {T : Nat → Nat → Nat} {i j c d : Nat} : fitT (delT T i) j c d = fitT T (skp i j) c d := rfl
theorem WfT_del {n i : Nat} {T : Nat → Nat → Nat} (hW : WfT n T) : WfT (n - 1) (delT T i) := by
  intro j hj
  exact hW (skp i j) (by unfold skp; split <;> omega)
theorem stM_but {n i : Nat} {T : Nat → Nat → Nat} {c d q : Nat} (hi : i < n) (hn : n < 2 ^ 31) : stM n T c d (nI i) (-6) 0 q = wvT (n - 1) (delT T i) (q + 1) c d := by
  apply le_eq; intro k
  rw [stM_iff, wv_iff]
  have := skp_all (Q := fun j => T j 1 = 2 → T j 0 < q + 1 → fitT T j c d = true → T j 4 ≤ k) hi
  refine Iff.trans ?_ this
  constructor
  · rintro ⟨_, h⟩ j hj hne h1 h2 h3
    exact h j hj ((nI_ne hj hi hn).mpr hne) h1 (by omega) h3
  · intro h
    exact ⟨fun _ _ _ => Nat.zero_le _, fun j hj hne h1 h2 h3 => h j hj ((nI_ne hj hi hn).mp hne) h1 (by omega) h3⟩
theorem lstM_but {n i : Nat} {T : Nat → Nat → Nat} {c d : Nat} (hW : WfT n T) (hi : i < n) (hn : n < 2 ^ 31) : lstM n T c d (nI i) (-6) 0 = lstT (n - 1) (delT T i) c d := by
  refine eq_le9 (lstM_le hW) (lst_le10 (WfT_del hW)) (fun z hz => ?_)
  rw [lstM_iff hz, lstT_iff (WfT_del hW) hz]
  refine and_congr (Iff.trans ?_ (skp_ex (Q := fun j => T j 1 = 0 ∧ fitT T j c d = true) hi)) (Iff.trans ?_ (skp_all (Q := fun b => T b 1 = 1 → fitT T b c d = true → wvT (n - 1) (delT T i) (T b 0 + 1) c d < T b 4 → T b 4 ≤ z) hi))
  · constructor
    · rintro ⟨j, hj, hne, h⟩; exact ⟨j, hj, (nI_ne hj hi hn).mp hne, h⟩
    · rintro ⟨j, hj, hne, h⟩; exact ⟨j, hj, (nI_ne hj hi hn).mpr hne, h⟩
  · constructor
    · intro h b hb hne h1 h2 h3
      exact h b hb ((nI_ne hb hi hn).mpr hne) h1 h2 (by rw [stM_but hi hn]; exact h3)
    · intro h b hb hne h1 h2 h3
      exact h b hb ((nI_ne hb hi hn).mp hne) h1 h2 (by rw [stM_but hi hn] at h3; exact h3)
/-- the table with a waiver for all behind it -/
def wavT (n : Nat) (T : Nat → Nat → Nat) (l se : Nat) : Nat → Nat → Nat := fun j w => if j = n then (match w with
  | 0 => l
  | 1 => 2
  | 2 => 5
  | 3 => 6
  | _ => se) else T j w
theorem wav_old {n : Nat} {T : Nat → Nat → Nat} {l se j w : Nat} (h : j < n) : wavT n T l se j w = T j w := by
  unfold wavT; rw [if_neg (by omega)]
theorem wav_new {n : Nat} {T : Nat → Nat → Nat} {l se : Nat} : wavT n T l se n 0 = l ∧ wavT n T l se n 1 = 2 ∧ wavT n T l se n 2 = 5 ∧ wavT n T l se n 3 = 6 ∧ wavT n T l se n 4 = se := by
  unfold wavT; simp
theorem fit_wav {n : Nat} {T : Nat → Nat → Nat} {l se j c d : Nat} (h : j < n) : fitT (wavT n T l se) j c d = fitT T j c d := by
  unfold fitT; rw [wav_old h, wav_old h]
theorem WfT_wav {n : Nat} {T : Nat → Nat → Nat} {l se : Nat} (hW : WfT n T) (hl : l < 5) (hs : 1 ≤ se ∧ se ≤ 9) : WfT (n + 1) (wavT n T l se) := by
  intro j hj
  rcases Nat.lt_or_ge j n with c | c
  · rw [wav_old c, wav_old c, wav_old c, wav_old c, wav_old c]; exact hW j c
  · rw [show j = n by omega]
    obtain ⟨h0, h1, h2, h3, h4⟩ := wav_new (n := n) (T := T) (l := l) (se := se)
    rw [h0, h1, h2, h3, h4]; omega
theorem stM_wav {n : Nat} {T : Nat → Nat → Nat} {c d q l se : Nat} (hn : n < 2 ^ 30) (hl : l < 5) (hq : q < 5) : stM n T c d (-6) (nI l) se q = wvT (n + 1) (wavT n T l se) (q + 1) c d := by
  apply le_eq; intro k
  rw [stM_iff, wv_iff]
  obtain ⟨e0, e1, e2, e3, e4⟩ := wav_new (n := n) (T := T) (l := l) (se := se)
  constructor
  · rintro ⟨h0, h⟩ j hj h1 h2 h3
    rcases Nat.lt_or_ge j n with x | x
    · rw [wav_old x] at h1 h2 ⊢
      rw [fit_wav x] at h3
      exact h j x (nI_ne6 (by omega)) h1 (by omega) h3
    · have : j = n := by omega
      subst this
      rw [e0] at h2; rw [e4]
      exact h0 l (by omega) rfl
  · intro h
    refine ⟨fun p hp e => ?_, fun j hj _ h1 h2 h3 => ?_⟩
    · have e5 : p = l := (nI_eq (by omega) (by omega)).mp e
      have := h n (by omega) e1 (by rw [e0]; omega) (by unfold fitT; rw [e2, e3]; simp)
      rw [e4] at this; exact this
    · have := h j (by omega) (by rw [wav_old hj]; exact h1) (by rw [wav_old hj]; omega) (by rw [fit_wav hj]; exact h3)
      rw [wav_old hj] at this; exact this
theorem lstM_wav {n : Nat} {T : Nat → Nat → Nat} {c d l se : Nat} (hW : WfT n T) (hn : n < 2 ^ 30) (hl : l < 5) (hs : 1 ≤ se ∧ se ≤ 9) : lstM n T c d (-6) (nI l) se = lstT (n + 1) (wavT n T l se) c d := by
  have hW2 := WfT_wav hW hl hs
  obtain ⟨e0, e1, e2, e3, e4⟩ := wav_new (n := n) (T := T) (l := l) (se := se)
  refine eq_le9 (lstM_le hW) (lst_le10 hW2) (fun z hz => ?_)
  rw [lstM_iff hz, lstT_iff hW2 hz]
  constructor
  · rintro ⟨⟨j, hj, _, h1, h2⟩, h⟩
    refine ⟨⟨j, by omega, by rw [wav_old hj]; exact h1, by rw [fit_wav hj]; exact h2⟩, fun b hb g1 g2 g3 => ?_⟩
    rcases Nat.lt_or_ge b n with x | x
    · rw [wav_old x] at g1 ⊢
      rw [wav_old x, wav_old x] at g3
      rw [fit_wav x] at g2
      exact h b x (nI_ne6 (by omega)) g1 g2 (by rw [stM_wav hn hl (hW b x).1]; exact g3)
    · rw [show b = n by omega, e1] at g1; omega
  · rintro ⟨⟨j, hj, h1, h2⟩, h⟩
    have hj : j < n := by
      rcases Nat.lt_or_ge j n with x | x
      · exact x
      · rw [show j = n by omega, e1] at h1; omega
    rw [wav_old hj] at h1
    rw [fit_wav hj] at h2
    refine ⟨⟨j, hj, nI_ne6 (by omega), h1, h2⟩, fun b hb _ g1 g2 g3 => ?_⟩
    have := h b (by omega) (by rw [wav_old hb]; exact g1) (by rw [fit_wav hb]; exact g2) (by rw [wav_old hb, wav_old hb]; rw [stM_wav hn hl (hW b hb).1] at g3; exact g3)
    rw [wav_old hb] at this; exact this
/-- the loss of a ban frees, that of another binds -/
theorem del_mono {n i : Nat} {T : Nat → Nat → Nat} {c d : Nat} (hW : WfT n T) (hi : i < n) (hn : n < 2 ^ 31) : (T i 1 = 1 → lstT (n - 1) (delT T i) c d ≤ lstT n T c d) ∧ (T i 1 ≠ 1 → lstT n T c d ≤ lstT (n - 1) (delT T i) c d) := by
  rw [← lstM_but hW hi hn, ← lstM_now hW hn]
  have stle : ∀ q, stM n T c d (nI i) (-6) 0 q ≤ stM n T c d (-6) (-6) 0 q := by
    intro q; rw [stM_iff]
    exact ⟨fun _ _ _ => Nat.zero_le _, fun j hj _ h1 h2 h3 => (stM_iff.mp (Nat.le_refl (stM n T c d (-6) (-6) 0 q))).2 j hj (nI_ne6 (by omega)) h1 h2 h3⟩
  constructor
  · intro hb
    have steq : ∀ q, stM n T c d (-6) (-6) 0 q ≤ stM n T c d (nI i) (-6) 0 q := by
      intro q; rw [stM_iff]
      refine ⟨fun _ _ _ => Nat.zero_le _, fun j hj _ h1 h2 h3 => (stM_iff.mp (Nat.le_refl (stM n T c d (nI i) (-6) 0 q))).2 j hj ((nI_ne hj hi hn).mpr (fun e => ?_)) h1 h2 h3⟩
      rw [e, hb] at h1; omega
    rcases Nat.lt_or_ge (lstM n T c d (-6) (-6) 0) 10 with x | x
    · have h := (lstM_iff (show lstM n T c d (-6) (-6) 0 ≤ 9 by omega)).mp (Nat.le_refl _)
      rw [lstM_iff (by omega)]
      obtain ⟨⟨j, hj, _, h1, h2⟩, h3⟩ := h
      refine ⟨⟨j, hj, (nI_ne hj hi hn).mpr (fun e => by rw [e, hb] at h1; omega), h1, h2⟩, fun b hb2 _ g1 g2 g3 => h3 b hb2 (nI_ne6 (by omega)) g1 g2 (Nat.lt_of_le_of_lt (steq _) g3)⟩
    · have := lstM_le (c := c) (d := d) (bu := nI i) (ly := -6) (se := 0) hW; omega
  · intro hb
    rcases Nat.lt_or_ge (lstM n T c d (nI i) (-6) 0) 10 with x | x
    · have h := (lstM_iff (show lstM n T c d (nI i) (-6) 0 ≤ 9 by omega)).mp (Nat.le_refl _)
      rw [lstM_iff (by omega)]
      obtain ⟨⟨j, hj, _, h1, h2⟩, h3⟩ := h
      refine ⟨⟨j, hj, nI_ne6 (by omega), h1, h2⟩, fun b hb2 _ g1 g2 g3 => h3 b hb2 ((nI_ne hb2 hi hn).mpr (fun e => by rw [e] at g1; exact hb g1)) g1 g2 (Nat.lt_of_le_of_lt (stle _) g3)⟩
    · have := lstM_le (c := c) (d := d) (bu := -6) (ly := -6) (se := 0) hW; omega
/-- idle: by all pairs, and by the number of triples -/
theorem idle_eq {n i : Nat} {T : Nat → Nat → Nat} (hW : WfT n T) (hi : i < n) (hn : n < 2 ^ 31) : idM n T i = decide (trpT (n - 1) (delT T i) = trpT n T) := by
  unfold idM
  rw [Bool.eq_iff_iff, Bool.not_eq_true', anyN_false, decide_eq_true_iff]
  have e : ∀ q, (!decide (lstM n T (q / 6) (q % 6) (-6) (-6) 0 = lstM n T (q / 6) (q % 6) (nI i) (-6) 0)) = false ↔ lstT n T (q / 6) (q % 6) = lstT (n - 1) (delT T i) (q / 6) (q % 6) := by
    intro q
    rw [lstM_now hW hn, lstM_but hW hi hn]; simp
  unfold trpT
  constructor
  · intro h
    apply sumN_cong; intro q hq
    rw [(e q).mp (h q hq)]
  · intro h q hq
    rw [e q]
    have l1 := lst_le10 (c := q / 6) (d := q % 6) hW
    have l2 := lst_le10 (c := q / 6) (d := q % 6) (WfT_del (i := i) hW)
    by_cases hb : T i 1 = 1
    · have := sumN_eq (n := 30) (f := fun q => 10 - lstT n T (q / 6) (q % 6)) (g := fun q => 10 - lstT (n - 1) (delT T i) (q / 6) (q % 6)) (fun q _ => by have := (del_mono (c := q / 6) (d := q % 6) hW hi hn).1 hb; omega) h.symm q hq
      omega
    · have := sumN_eq (n := 30) (f := fun q => 10 - lstT (n - 1) (delT T i) (q / 6) (q % 6)) (g := fun q => 10 - lstT n T (q / 6) (q % 6)) (fun q _ => by have := (del_mono (c := q / 6) (d := q % 6) hW hi hn).2 hb; omega) h q hq
      omega
theorem trpM_now {n : Nat} {T : Nat → Nat → Nat} (hW : WfT n T) (hn : n < 2 ^ 31) : trpM n T (-6) (-6) 0 = trpT n T := by
  unfold trpM trpT; apply sumN_cong; intro q _; rw [lstM_now hW hn]
theorem trpM_but {n i : Nat} {T : Nat → Nat → Nat} (hW : WfT n T) (hi : i < n) (hn : n < 2 ^ 31) : trpM n T (nI i) (-6) 0 = trpT (n - 1) (delT T i) := by
  unfold trpM trpT; apply sumN_cong; intro q _; rw [lstM_but hW hi hn]
theorem trpM_wav {n l se : Nat} {T : Nat → Nat → Nat} (hW : WfT n T) (hn : n < 2 ^ 30) (hl : l < 5) (hs : 1 ≤ se ∧ se ≤ 9) : trpM n T (-6) (nI l) se = trpT (n + 1) (wavT n T l se) := by
  unfold trpM trpT; apply sumN_cong; intro q _; rw [lstM_wav hW hn hl hs]
theorem trp_le {n : Nat} {T : Nat → Nat → Nat} : trpT n T ≤ 300 := by
  unfold trpT; exact sumN_le (c := 10) (fun q _ => by omega)
/-- the outermost, of these the lowest, of the bans that hold -/
def BestI (h : Nat → Bool) (T : Nat → Nat → Nat) (lo hi : Nat) (x : Int32) : Prop := (x = -6 ∧ ∀ i, lo ≤ i → i < hi → h i = false) ∨ ∃ j, lo ≤ j ∧ j < hi ∧ x = nI j ∧ h j = true ∧ ∀ i, lo ≤ i → i < hi → h i = true → T j 0 < T i 0 ∨ (T j 0 = T i 0 ∧ j ≤ i)
theorem best_one {h : Nat → Bool} {T : Nat → Nat → Nat} {lo hi : Nat} {x y : Int32} (hx : BestI h T lo hi x) (hy : BestI h T lo hi y) : x = y := by
  rcases hx with ⟨hx, h1⟩ | ⟨j, a1, a2, a3, a4, a5⟩ <;> rcases hy with ⟨hy, h2⟩ | ⟨k, b1, b2, b3, b4, b5⟩
  · rw [hx, hy]
  · rw [h1 k b1 b2] at b4; cases b4
  · rw [h2 j a1 a2] at a4; cases a4
  · have c1 := a5 k b1 b2 b4
    have c2 := b5 j a1 a2 a4
    rw [a3, b3, show j = k by omega]
theorem rsF_best {n : Nat} {T : Nat → Nat → Nat} {c d rk : Nat} (hW : WfT n T) : ∀ i, i ≤ n → BestI (hitT n T c d rk) T 0 i (rsF n T c d rk i).1 ∧ ((∀ j, j < i → hitT n T c d rk j = false) ∧ (rsF n T c d rk i).2 = 5 ∨ ∃ j, j < i ∧ hitT n T c d rk j = true ∧ (rsF n T c d rk i).1 = nI j ∧ (rsF n T c d rk i).2 = T j 0 ∧ ∀ k, k < i → hitT n T c d rk k = true → T j 0 < T k 0 ∨ (T j 0 = T k 0 ∧ j ≤ k))
  | 0, _ => ⟨Or.inl ⟨rfl, fun i _ h => absurd h (Nat.not_lt_zero i)⟩, Or.inl ⟨fun j h => absurd h (Nat.not_lt_zero j), rfl⟩⟩
  | i + 1, hi => by
    obtain ⟨_, ih⟩ := rsF_best (c := c) (d := d) (rk := rk) hW i (by omega)
    suffices hs : ((∀ j, j < i + 1 → hitT n T c d rk j = false) ∧ (rsF n T c d rk (i + 1)).2 = 5 ∧ (rsF n T c d rk (i + 1)).1 = -6) ∨ ∃ j, j < i + 1 ∧ hitT n T c d rk j = true ∧ (rsF n T c d rk (i + 1)).1 = nI j ∧ (rsF n T c d rk (i + 1)).2 = T j 0 ∧ ∀ k, k < i + 1 → hitT n T c d rk k = true → T j 0 < T k 0 ∨ (T j 0 = T k 0 ∧ j ≤ k) by
      rcases hs with ⟨h1, h2, h3⟩ | ⟨j, h1, h2, h3, h4, h5⟩
      · exact ⟨Or.inl ⟨h3, fun j _ hj => h1 j hj⟩, Or.inl ⟨h1, h2⟩⟩
      · exact ⟨Or.inr ⟨j, Nat.zero_le j, h1, h3, h2, fun k _ hk => h5 k hk⟩, Or.inr ⟨j, h1, h2, h3, h4, h5⟩⟩
    have h5 := (hW i (by omega)).1
    rw [rsF]
    by_cases g : hitT n T c d rk i = true ∧ T i 0 < (rsF n T c d rk i).2
    · rw [if_pos g]
      refine Or.inr ⟨i, by omega, g.1, rfl, rfl, fun k hk hh => ?_⟩
      rcases Nat.lt_or_ge k i with x | x
      · rcases ih with ⟨h1, _⟩ | ⟨j, h1, h2, h3, h4, h6⟩
        · rw [h1 k x] at hh; cases hh
        · have := h6 k x hh
          rw [h4] at g; omega
      · rw [show k = i by omega]; omega
    · rw [if_neg g]
      rcases ih with ⟨h1, h2⟩ | ⟨j, h1, h2, h3, h4, h6⟩
      · refine Or.inl ⟨fun k hk => ?_, h2, ?_⟩
        · rcases Nat.lt_or_ge k i with x | x
          · exact h1 k x
          · rw [show k = i by omega]
            cases e : hitT n T c d rk i
            · rfl
            · exact absurd ⟨e, by omega⟩ g
        · obtain ⟨hb, _⟩ := rsF_best (c := c) (d := d) (rk := rk) hW i (by omega)
          rcases hb with ⟨hb, _⟩ | ⟨j, _, a2, _, a4, _⟩
          · exact hb
          · rw [h1 j a2] at a4; cases a4
      · refine Or.inr ⟨j, by omega, h2, h3, h4, fun k hk hh => ?_⟩
        rcases Nat.lt_or_ge k i with x | x
        · exact h6 k x hh
        · rw [show k = i by omega] at hh ⊢
          have : ¬ T i 0 < (rsF n T c d rk i).2 := fun q => g ⟨hh, q⟩
          rw [h4] at this; omega
theorem best_up {h : Nat → Bool} {T : Nat → Nat → Nat} {lo hi j : Nat} (hj : j < hi) (hl : j + 1 = lo) (hh : h j = true) (hlow : ∀ i, lo ≤ i → i < hi → h i = true → T j 0 ≤ T i 0) : BestI h T j hi (nI j) := by
  refine Or.inr ⟨j, Nat.le_refl j, hj, rfl, hh, fun i h1 h2 h3 => ?_⟩
  rcases Nat.lt_or_ge j i with x | x
  · have := hlow i (by omega) h2 h3; omega
  · rw [show i = j by omega]; omega
theorem best_keep {h : Nat → Bool} {T : Nat → Nat → Nat} {lo hi j : Nat} {x : Int32} (hl : j + 1 = lo) (hb : BestI h T lo hi x) (hh : h j = false) : BestI h T j hi x := by
  rcases hb with ⟨e, h1⟩ | ⟨k, a1, a2, a3, a4, a5⟩
  · refine Or.inl ⟨e, fun i g1 g2 => ?_⟩
    rcases Nat.lt_or_ge j i with x | x
    · exact h1 i (by omega) g2
    · rw [show i = j by omega]; exact hh
  · refine Or.inr ⟨k, by omega, a2, a3, a4, fun i g1 g2 g3 => ?_⟩
    rcases Nat.lt_or_ge j i with x | x
    · exact a5 i (by omega) g2 g3
    · rw [show i = j by omega, hh] at g3; cases g3
theorem best_far {h : Nat → Bool} {T : Nat → Nat → Nat} {lo hi j k : Nat} (hl : j + 1 = lo) (hb : BestI h T lo hi (nI k)) (hk : k < hi) (hhi : hi < 2 ^ 31) (hlt : T k 0 < T j 0) : BestI h T j hi (nI k) := by
  rcases hb with ⟨e, h1⟩ | ⟨k', a1, a2, a3, a4, a5⟩
  · exact absurd e (nI_ne6 (by omega))
  · have e := (nI_eq (show k < 2 ^ 31 by omega) (show k' < 2 ^ 31 by omega)).mp a3
    subst e
    refine Or.inr ⟨k, by omega, hk, rfl, a4, fun i g1 g2 g3 => ?_⟩
    rcases Nat.lt_or_ge j i with x | x
    · exact a5 i (by omega) g2 g3
    · rw [show i = j by omega]; omega
theorem best_new {h : Nat → Bool} {T : Nat → Nat → Nat} {lo hi j : Nat} (hj : j < hi) (hl : j + 1 = lo) (hb : BestI h T lo hi (-6)) (hhi : hi < 2 ^ 31) (hh : h j = true) : BestI h T j hi (nI j) := by
  refine best_up hj hl hh (fun i h1 h2 h3 => ?_)
  rcases hb with ⟨_, g⟩ | ⟨k, _, a2, a3, _, _⟩
  · rw [g i h1 h2] at h3; cases h3
  · exact absurd a3.symm (nI_ne6 (by omega))
theorem best_near {h : Nat → Bool} {T : Nat → Nat → Nat} {lo hi j k : Nat} (hj : j < hi) (hl : j + 1 = lo) (hb : BestI h T lo hi (nI k)) (hk : k < hi) (hhi : hi < 2 ^ 31) (hh : h j = true) (hle : T j 0 ≤ T k 0) : BestI h T j hi (nI j) := by
  refine best_up hj hl hh (fun i h1 h2 h3 => ?_)
  rcases hb with ⟨e, _⟩ | ⟨k', a1, a2, a3, a4, a5⟩
  · exact absurd e (nI_ne6 (by omega))
  · have e := (nI_eq (show k < 2 ^ 31 by omega) (show k' < 2 ^ 31 by omega)).mp a3
    subst e
    have := a5 i h1 h2 h3; omega
theorem best_at {h : Nat → Bool} {T : Nat → Nat → Nat} {lo hi : Nat} {x : Int32} (hb : BestI h T lo hi x) (hx : ¬ x = -6) : ∃ j, lo ≤ j ∧ j < hi ∧ x = nI j := by
  rcases hb with ⟨e, _⟩ | ⟨j, a1, a2, a3, _⟩
  · exact absurd e hx
  · exact ⟨j, a1, a2, a3⟩
/-- with a rank that is enough, no ban hits -/
theorem best_none {n : Nat} {T : Nat → Nat → Nat} {c d rk : Nat} (hrk : rk ≤ 9) (h : lstT n T c d ≤ rk) : BestI (hitT n T c d rk) T 0 n (-6) := by
  refine Or.inl ⟨rfl, fun i _ hi => ?_⟩
  rw [lst_le hrk] at h
  cases e : hitT n T c d rk i
  · rfl
  · simp only [hitT, Bool.and_eq_true, decide_eq_true_eq, beq_iff_eq] at e
    have := h.2 i hi e.1.1 e.2; omega
theorem lst_10 {n : Nat} {T : Nat → Nat → Nat} {c d : Nat} (hW : WfT n T) : lstT n T c d = 10 ↔ permT n T c d = false := by
  constructor
  · intro h
    cases e : permT n T c d
    · rfl
    · have : lstT n T c d ≤ 9 := by
        rw [lst_le (Nat.le_refl 9)]
        exact ⟨e, fun b hb _ _ => (hW b hb).2.2.2.2.2⟩
      omega
  · intro h; unfold lstT; rw [h]; rfl
theorem rsn_best {n : Nat} {T : Nat → Nat → Nat} {c d rk : Nat} {x : Int32} (hW : WfT n T) (hp : ¬ lstT n T c d = 10) (hb : BestI (hitT n T c d rk) T 0 n x) : x = rsnT n T c d rk := by
  unfold rsnT
  have : permT n T c d = true := by
    cases e : permT n T c d
    · exact absurd ((lst_10 hW).mpr e) hp
    · rfl
  rw [if_pos this]
  exact best_one hb (rsF_best hW n (Nat.le_refl n)).1
theorem hit_iff {n : Nat} {T : Nat → Nat → Nat} {c d rk i : Nat} (hW : WfT n T) (hi : i < n) (hn : n < 2 ^ 31) : hitT n T c d rk i = true ↔ T i 1 = 1 ∧ fitT T i c d = true ∧ stM n T c d (-6) (-6) 0 (T i 0) < T i 4 ∧ rk < T i 4 := by
  rw [stM_now hn]
  simp only [hitT, Bool.and_eq_true, decide_eq_true_eq, beq_iff_eq]
  constructor
  · rintro ⟨⟨h1, h2⟩, h3⟩
    exact ⟨h1, hold_fit h3, (hold_iff (hold_fit h3) (hW i hi).2.2.2.2.1).mp h3, h2⟩
  · rintro ⟨h1, h2, h3, h4⟩
    exact ⟨⟨h1, h4⟩, (hold_iff h2 (hW i hi).2.2.2.2.1).mpr h3⟩
theorem hit_f {n : Nat} {T : Nat → Nat → Nat} {c d rk i : Nat} (hW : WfT n T) (hi : i < n) (hn : n < 2 ^ 31) (h : T i 1 ≠ 1 ∨ fitT T i c d = false ∨ T i 4 ≤ stM n T c d (-6) (-6) 0 (T i 0) ∨ T i 4 ≤ rk) : hitT n T c d rk i = false := by
  cases e : hitT n T c d rk i
  · rfl
  · obtain ⟨h1, h2, h3, h4⟩ := (hit_iff hW hi hn).mp e
    rcases h with h | h | h | h
    · exact absurd h1 h
    · rw [h2] at h; cases h
    · omega
    · omega
