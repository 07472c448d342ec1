/-! Integer.bitCount: the number of ones. -/
def popN (x : Nat) : Nat := cntN 32 (fun i => x.testBit i)
def pop8 (x : Nat) : Nat := cntN 8 (fun i => x.testBit i)
theorem cntN_split (m : Nat) (p : Nat → Bool) : ∀ n, cntN (m + n) p = cntN m p + cntN n (fun i => p (m + i))
  | 0 => rfl
  | n + 1 => by
    rw [← Nat.add_assoc, cntN_succ, cntN_succ, cntN_split m p n]; omega
theorem cntN_cong {n : Nat} {p q : Nat → Bool} (h : ∀ i, i < n → p i = q i) : cntN n p = cntN n q := sumN_cong (fun i hi => by rw [h i hi])
theorem byte_bit {a y : Nat} (ha : a < 256) (i : Nat) : (a + 256 * y).testBit i = if i < 8 then a.testBit i else y.testBit (i - 8) := by
  rw [Nat.add_comm, show 256 * y = 2 ^ 8 * y from rfl, Nat.testBit_two_pow_mul_add y (show a < 2 ^ 8 from ha)]
theorem byte_and {a y m M : Nat} (ha : a < 256) (hm : m < 256) : (a + 256 * y) &&& (m + 256 * M) = (a &&& m) + 256 * (y &&& M) := by
  apply Nat.eq_of_testBit_eq; intro i
  rw [Nat.testBit_and, byte_bit ha, byte_bit hm, byte_bit (Nat.lt_of_le_of_lt Nat.and_le_left ha)]
  split <;> rw [Nat.testBit_and]
theorem pop_byte {a y : Nat} (n : Nat) (ha : a < 256) : cntN (8 + n) (fun i => (a + 256 * y).testBit i) = pop8 a + cntN n (fun i => y.testBit i) := by
  rw [cntN_split]
  congr 1
  · apply cntN_cong; intro i hi; rw [byte_bit ha, if_pos hi]
  · apply cntN_cong; intro i _; rw [byte_bit ha, if_neg (by omega), Nat.add_sub_cancel_left]
def by1 (a : Nat) : Nat := a - (a / 2 &&& 85)
def by2 (d : Nat) : Nat := (d &&& 51) + (d / 4 &&& 51)
def by3 (e : Nat) : Nat := (e + e / 16) &&& 15
theorem by1_c : ∀ a, a < 256 → ∀ t, t < 2 → (a / 2 + 128 * t) &&& 85 = a / 2 &&& 85 := by decide +kernel
theorem by1_le : ∀ a, a < 256 → (a / 2 &&& 85) ≤ a := by decide +kernel
theorem by2_c : ∀ d, d < 256 → ∀ t, t < 4 → (d / 4 + 64 * t) &&& 51 = d / 4 &&& 51 := by decide +kernel
theorem by2_le : ∀ a, a < 256 → by2 (by1 a) ≤ 68 ∧ by2 (by1 a) % 16 ≤ 4 := by decide +kernel
theorem by3_c : ∀ e, e < 69 → ∀ t, t < 5 → (e + e / 16 + 16 * t) &&& 15 = (e + e / 16) &&& 15 := by decide +kernel
theorem by_all : ∀ a, a < 256 → by3 (by2 (by1 a)) = pop8 a := by decide +kernel
theorem pop8_le : ∀ a, a < 256 → pop8 a ≤ 8 := by decide +kernel
theorem swar {b0 b1 b2 b3 : Nat} (h0 : b0 < 256) (h1 : b1 < 256) (h2 : b2 < 256) (h3 : b3 < 256) :
    ∃ x1 x2 x3 x4 x5 : Nat, x1 = (b0 + 256 * (b1 + 256 * (b2 + 256 * b3))) - ((b0 + 256 * (b1 + 256 * (b2 + 256 * b3))) / 2 &&& 1431655765) ∧ ((b0 + 256 * (b1 + 256 * (b2 + 256 * b3))) / 2 &&& 1431655765) ≤ (b0 + 256 * (b1 + 256 * (b2 + 256 * b3))) ∧ x1 < 2 ^ 32 ∧ x2 = (x1 &&& 858993459) + (x1 / 4 &&& 858993459) ∧ x2 < 2 ^ 32 ∧ x3 = (x2 + x2 / 16) &&& 252645135 ∧ x3 < 2 ^ 32 ∧ x4 = x3 + x3 / 256 ∧ x4 < 2 ^ 32 ∧ x5 = x4 + x4 / 65536 ∧ x5 % 64 = pop8 b0 + pop8 b1 + pop8 b2 + pop8 b3 := by
  have c0 := by1_le b0 h0
  have c1 := by1_le b1 h1
  have c2 := by1_le b2 h2
  have c3 := by1_le b3 h3
  have s1 : (b0 + 256 * (b1 + 256 * (b2 + 256 * b3))) / 2 &&& 1431655765 = (b0 / 2 &&& 85) + 256 * ((b1 / 2 &&& 85) + 256 * ((b2 / 2 &&& 85) + 256 * (b3 / 2 &&& 85))) := by
    rw [show (b0 + 256 * (b1 + 256 * (b2 + 256 * b3))) / 2 = (b0 / 2 + 128 * (b1 % 2)) + 256 * ((b1 / 2 + 128 * (b2 % 2)) + 256 * ((b2 / 2 + 128 * (b3 % 2)) + 256 * (b3 / 2))) by omega, show 1431655765 = 85 + 256 * (85 + 256 * (85 + 256 * 85)) from rfl, byte_and (by omega) (by omega), byte_and (by omega) (by omega), byte_and (by omega) (by omega), by1_c b0 h0 _ (by omega), by1_c b1 h1 _ (by omega), by1_c b2 h2 _ (by omega)]
  have v1 : (b0 + 256 * (b1 + 256 * (b2 + 256 * b3))) - ((b0 + 256 * (b1 + 256 * (b2 + 256 * b3))) / 2 &&& 1431655765) = by1 b0 + 256 * (by1 b1 + 256 * (by1 b2 + 256 * by1 b3)) := by
    rw [s1]; unfold by1; omega
  have d0 : by1 b0 < 256 := by unfold by1; omega
  have d1 : by1 b1 < 256 := by unfold by1; omega
  have d2 : by1 b2 < 256 := by unfold by1; omega
  have d3 : by1 b3 < 256 := by unfold by1; omega
  have v2 : ((by1 b0 + 256 * (by1 b1 + 256 * (by1 b2 + 256 * by1 b3))) &&& 858993459) + ((by1 b0 + 256 * (by1 b1 + 256 * (by1 b2 + 256 * by1 b3))) / 4 &&& 858993459) = by2 (by1 b0) + 256 * (by2 (by1 b1) + 256 * (by2 (by1 b2) + 256 * by2 (by1 b3))) := by
    rw [show (by1 b0 + 256 * (by1 b1 + 256 * (by1 b2 + 256 * by1 b3))) / 4 = (by1 b0 / 4 + 64 * (by1 b1 % 4)) + 256 * ((by1 b1 / 4 + 64 * (by1 b2 % 4)) + 256 * ((by1 b2 / 4 + 64 * (by1 b3 % 4)) + 256 * (by1 b3 / 4))) by omega, show 858993459 = 51 + 256 * (51 + 256 * (51 + 256 * 51)) from rfl, byte_and d0 (by omega), byte_and d1 (by omega), byte_and d2 (by omega), byte_and (by omega) (by omega), byte_and (by omega) (by omega), byte_and (by omega) (by omega), by2_c _ d0 _ (by omega), by2_c _ d1 _ (by omega), by2_c _ d2 _ (by omega)]
    unfold by2; omega
  obtain ⟨e0, g0⟩ := by2_le b0 h0
  obtain ⟨e1, g1⟩ := by2_le b1 h1
  obtain ⟨e2, g2⟩ := by2_le b2 h2
  obtain ⟨e3, g3⟩ := by2_le b3 h3
  have a0 := by_all b0 h0
  have a1 := by_all b1 h1
  have a2 := by_all b2 h2
  have a3 := by_all b3 h3
  generalize by2 (by1 b0) = u0 at v2 e0 g0 a0
  generalize by2 (by1 b1) = u1 at v2 e1 g1 a1
  generalize by2 (by1 b2) = u2 at v2 e2 g2 a2
  generalize by2 (by1 b3) = u3 at v2 e3 g3 a3
  have v3 : ((u0 + 256 * (u1 + 256 * (u2 + 256 * u3))) + (u0 + 256 * (u1 + 256 * (u2 + 256 * u3))) / 16) &&& 252645135 = pop8 b0 + 256 * (pop8 b1 + 256 * (pop8 b2 + 256 * pop8 b3)) := by
    rw [show (u0 + 256 * (u1 + 256 * (u2 + 256 * u3))) + (u0 + 256 * (u1 + 256 * (u2 + 256 * u3))) / 16 = (u0 + u0 / 16 + 16 * (u1 % 16)) + 256 * ((u1 + u1 / 16 + 16 * (u2 % 16)) + 256 * ((u2 + u2 / 16 + 16 * (u3 % 16)) + 256 * (u3 + u3 / 16))) by omega, show 252645135 = 15 + 256 * (15 + 256 * (15 + 256 * 15)) from rfl, byte_and (by omega) (by omega), byte_and (by omega) (by omega), byte_and (by omega) (by omega), by3_c u0 (by omega) _ (by omega), by3_c u1 (by omega) _ (by omega), by3_c u2 (by omega) _ (by omega), ← a0, ← a1, ← a2, ← a3]
    rfl
  have p0 := pop8_le b0 h0
  have p1 := pop8_le b1 h1
  have p2 := pop8_le b2 h2
  have p3 := pop8_le b3 h3
  refine ⟨_, _, _, _, _, rfl, by rw [s1]; omega, by omega, rfl, ?_, rfl, ?_, rfl, ?_, rfl, ?_⟩
  · rw [v1, v2]; omega
  · rw [v1, v2, v3]; omega
  · rw [v1, v2, v3]; omega
  · rw [v1, v2, v3]
    clear v1 v2 v3 s1 a0 a1 a2 a3 e0 e1 e2 e3 g0 g1 g2 g3 d0 d1 d2 d3 c0 c1 c2 c3
    generalize pop8 b0 = t0 at p0 ⊢
    generalize pop8 b1 = t1 at p1 ⊢
    generalize pop8 b2 = t2 at p2 ⊢
    generalize pop8 b3 = t3 at p3 ⊢
    have k1 : (t0 + 256 * (t1 + 256 * (t2 + 256 * t3))) / 256 = t1 + 256 * (t2 + 256 * t3) := by omega
    rw [k1]
    have k2 : (t0 + 256 * (t1 + 256 * (t2 + 256 * t3)) + (t1 + 256 * (t2 + 256 * t3))) / 65536 = t2 + t3 + 256 * t3 := by omega
    rw [k2]
    omega
theorem pop_32 {b0 b1 b2 b3 : Nat} (h0 : b0 < 256) (h1 : b1 < 256) (h2 : b2 < 256) (h3 : b3 < 256) : popN (b0 + 256 * (b1 + 256 * (b2 + 256 * b3))) = pop8 b0 + pop8 b1 + pop8 b2 + pop8 b3 := by
  unfold popN
  rw [show (32 : Nat) = 8 + 24 from rfl, pop_byte 24 h0, show (24 : Nat) = 8 + 16 from rfl, pop_byte 16 h1, show (16 : Nat) = 8 + 8 from rfl, pop_byte 8 h2]
  unfold pop8; omega
theorem ush_n {n : Nat} (hn : n < 2 ^ 32) : ((nI n).toUInt32 >>> ((nI 1).toUInt32 &&& Int32.toUInt32 31)).toInt32 = nI (n / 2) ∧ ((nI n).toUInt32 >>> ((nI 2).toUInt32 &&& Int32.toUInt32 31)).toInt32 = nI (n / 4) ∧ ((nI n).toUInt32 >>> ((nI 4).toUInt32 &&& Int32.toUInt32 31)).toInt32 = nI (n / 16) ∧ ((nI n).toUInt32 >>> ((nI 8).toUInt32 &&& Int32.toUInt32 31)).toInt32 = nI (n / 256) ∧ ((nI n).toUInt32 >>> ((nI 16).toUInt32 &&& Int32.toUInt32 31)).toInt32 = nI (n / 65536) :=
  ⟨pk_ushrN hn (nI 1) 1 (by decide +kernel), pk_ushrN hn (nI 2) 2 (by decide +kernel), pk_ushrN hn (nI 4) 4 (by decide +kernel), pk_ushrN hn (nI 8) 8 (by decide +kernel), pk_ushrN hn (nI 16) 16 (by decide +kernel)⟩
theorem nI_and (a b : Nat) : nI a &&& nI b = nI (a &&& b) := by
  apply b_ext; intro i hi
  rw [b_and, bt_nI _ _ hi, bt_nI _ _ hi, bt_nI _ _ hi, Nat.testBit_and]
theorem bitc_pop {n : Nat} (hn : n < 2 ^ 32) : ∃ x1 x2 x3 x4 x5 : Nat, x1 = n - (n / 2 &&& 1431655765) ∧ (n / 2 &&& 1431655765) ≤ n ∧ x1 < 2 ^ 32 ∧ x2 = (x1 &&& 858993459) + (x1 / 4 &&& 858993459) ∧ x2 < 2 ^ 32 ∧ x3 = (x2 + x2 / 16) &&& 252645135 ∧ x3 < 2 ^ 32 ∧ x4 = x3 + x3 / 256 ∧ x4 < 2 ^ 32 ∧ x5 = x4 + x4 / 65536 ∧ x5 % 64 = popN n := by
  obtain ⟨b0, b1, b2, b3, h0, h1, h2, h3, rfl⟩ : ∃ b0 b1 b2 b3 : Nat, b0 < 256 ∧ b1 < 256 ∧ b2 < 256 ∧ b3 < 256 ∧ n = b0 + 256 * (b1 + 256 * (b2 + 256 * b3)) :=
    ⟨n % 256, n / 256 % 256, n / 65536 % 256, n / 16777216, by omega, by omega, by omega, by omega, by omega⟩
  rw [pop_32 h0 h1 h2 h3]
  exact swar h0 h1 h2 h3
theorem and63 (x : Nat) : x &&& 63 = x % 64 := Nat.and_two_pow_sub_one_eq_mod x 6
theorem mk_pop (p : Nat → Bool) : popN (maskN 30 p) = cntN 30 p := by
  unfold popN
  rw [show (32 : Nat) = 30 + 2 from rfl, cntN_split]
  have e1 : cntN 30 (fun i => (maskN 30 p).testBit i) = cntN 30 p := by
    apply cntN_cong; intro i hi; rw [maskN_bit]; simp [hi]
  have e2 : cntN 2 (fun i => (maskN 30 p).testBit (30 + i)) = 0 := by
    have : cntN 2 (fun i => (maskN 30 p).testBit (30 + i)) = cntN 2 (fun _ => false) := by
      apply cntN_cong; intro i _; rw [maskN_bit, decide_eq_false (by omega), Bool.false_and]
    rw [this]; rfl
  rw [e1, e2]; rfl
