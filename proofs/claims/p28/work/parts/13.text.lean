/-! ===== lN n to 2^64: shifts, and, or, masks, one bit ===== -/
theorem wb_tb (n : Nat) : (lN n).toBitVec = BitVec.ofNat 64 n := rfl
theorem wb_inj {a b : Int64} (h : a.toBitVec = b.toBitVec) : a = b := Int64.toBitVec_inj.mp h
theorem wb_tn {n : Nat} (h : n < 2 ^ 64) : (lN n).toBitVec.toNat = n := by rw [wb_tb, BitVec.toNat_ofNat, Nat.mod_eq_of_lt h]
theorem wb_of (x : Int64) : ∃ n, n < 2 ^ 64 ∧ x = lN n := ⟨x.toBitVec.toNat, x.toBitVec.isLt, wb_inj (by rw [wb_tb]; simp)⟩
theorem wb_of32 (x : Int32) : ∃ n, n < 2 ^ 32 ∧ x = nI n := ⟨x.toBitVec.toNat, x.toBitVec.isLt, Int32.toBitVec_inj.mp (by show _ = BitVec.ofNat 32 _; simp)⟩
theorem wb_c : ∀ k, k < 64 → ((nI k).toInt64 &&& 63) = lN k := by decide +kernel
theorem wb_cu : ∀ k, k < 64 → ((nI k).toInt64.toUInt64 &&& Int64.toUInt64 63) = UInt64.ofNat k := by decide +kernel
theorem wb_sm : ∀ k, k < 64 → (BitVec.ofNat 64 k).smod 64 = BitVec.ofNat 64 k := by decide +kernel
theorem wb_pw {a b : Nat} (h : a ≤ b) : 2 ^ b = 2 ^ a * 2 ^ (b - a) := by rw [← Nat.pow_add]; congr 1; omega
theorem wb_lt2 {a b : Nat} (h : a < b) : 2 ^ a < 2 ^ b := Nat.pow_lt_pow_right (by decide) h
theorem wb_mod (n : Nat) : lN n = lN (n % 2 ^ 64) := wb_inj (by rw [wb_tb, wb_tb]; apply BitVec.eq_of_toNat_eq; rw [BitVec.toNat_ofNat, BitVec.toNat_ofNat, Nat.mod_mod])
theorem wb_shr {n k : Nat} (hn : n < 2 ^ 64) (hk : k < 64) : ((lN n).toUInt64 >>> ((nI k).toInt64.toUInt64 &&& Int64.toUInt64 63)).toInt64 = lN (n / 2 ^ k) := by
  rw [wb_cu k hk]
  apply wb_inj
  apply BitVec.eq_of_toNat_eq
  show ((lN n).toUInt64 >>> UInt64.ofNat k).toNat = (BitVec.ofNat 64 _).toNat
  have h1 : (UInt64.ofNat k).toNat = k := by
    show (BitVec.ofNat 64 k).toNat = k
    rw [BitVec.toNat_ofNat, Nat.mod_eq_of_lt (by omega)]
  have h2 : (lN n).toUInt64.toNat = n := wb_tn hn
  rw [UInt64.toNat_shiftRight, h1, h2, Nat.mod_eq_of_lt hk, Nat.shiftRight_eq_div_pow, BitVec.toNat_ofNat, Nat.mod_eq_of_lt (Nat.lt_of_le_of_lt (Nat.div_le_self _ _) hn)]
theorem wb_shl (n : Nat) {k : Nat} (hk : k < 64) : lN n <<< ((nI k).toInt64 &&& 63) = lN (n * 2 ^ k) := by
  rw [wb_c k hk]
  apply wb_inj
  rw [Int64.toBitVec_shiftLeft, wb_tb, wb_tb, wb_tb, wb_sm k hk]
  apply BitVec.eq_of_toNat_eq
  rw [BitVec.shiftLeft_eq', BitVec.toNat_shiftLeft, BitVec.toNat_ofNat, BitVec.toNat_ofNat, BitVec.toNat_ofNat, Nat.mod_eq_of_lt (show k < 2 ^ 64 by omega), Nat.shiftLeft_eq, Nat.mul_mod, Nat.mod_mod, ← Nat.mul_mod]
theorem wb_and {a b : Nat} (ha : a < 2 ^ 64) (hb : b < 2 ^ 64) : lN a &&& lN b = lN (a &&& b) := by
  apply wb_inj
  rw [Int64.toBitVec_and, wb_tb, wb_tb, wb_tb]
  apply BitVec.eq_of_toNat_eq
  rw [BitVec.toNat_and, BitVec.toNat_ofNat, BitVec.toNat_ofNat, BitVec.toNat_ofNat, Nat.mod_eq_of_lt ha, Nat.mod_eq_of_lt hb, Nat.mod_eq_of_lt (Nat.and_lt_two_pow _ hb)]
theorem wb_or {a b : Nat} (ha : a < 2 ^ 64) (hb : b < 2 ^ 64) : lN a ||| lN b = lN (a ||| b) := by
  apply wb_inj
  rw [Int64.toBitVec_or, wb_tb, wb_tb, wb_tb]
  apply BitVec.eq_of_toNat_eq
  rw [BitVec.toNat_or, BitVec.toNat_ofNat, BitVec.toNat_ofNat, BitVec.toNat_ofNat, Nat.mod_eq_of_lt ha, Nat.mod_eq_of_lt hb, Nat.mod_eq_of_lt (Nat.or_lt_two_pow ha hb)]
theorem wb_mask {n k : Nat} (hn : n < 2 ^ 64) (hk : k < 64) : lN n &&& lN (2 ^ k - 1) = lN (n % 2 ^ k) := by
  rw [wb_and hn (by have := wb_lt2 hk; omega), Nat.and_two_pow_sub_one_eq_mod]
theorem wb_a1 {n : Nat} (hn : n < 2 ^ 64) : lN n &&& 1 = lN (n % 2) := wb_mask (k := 1) hn (by decide)
/-! Texts: the pad's signs P, m of them; a sign behind the end is 0. -/
def sgn (m : Nat) (P : Nat → Nat) (i : Nat) : Nat := if i < m then P i else 0
def btwB (c lo hi : Nat) : Bool := decide (lo ≤ c) && decide (c ≤ hi)
def wfP (m : Nat) (P : Nat → Nat) : Prop := ∀ j, j < m → P j < 128
def relP (h : Nat → Int32) (m : Nat) (P : Nat → Nat) : Prop := ∀ j, j < m → h j = nI (P j)
theorem sgn_lt {m : Nat} {P : Nat → Nat} (hP : wfP m P) (i : Nat) : sgn m P i < 128 := by
  unfold sgn; split
  · exact hP i (by assumption)
  · omega
theorem inR_nI {c lo hi : Nat} (hc : c < 2 ^ 31) (h1 : lo < 2 ^ 31) (h2 : hi < 2 ^ 31) : inR (nI c) (nI lo) (nI hi) = btwB c lo hi := by
  unfold inR btwB
  rw [Bool.eq_iff_iff]
  simp only [Bool.and_eq_true, decide_eq_true_eq, nI_leI h1 hc, nI_leI hc h2]
def kindC (c : Nat) : Nat := if c = 112 then 0 else if c = 98 then 1 else 2
def kindK (c : Nat) : Nat := if c = 112 then 0 else if c = 98 then 1 else if c = 119 then 2 else 3
def nmC (c all : Nat) : Nat := if c = 42 then all else c - 48
def cstB (m : Nat) (P : Nat → Nat) (pl i : Nat) : Bool := match pl with
  | 0 => btwB (sgn m P i) 48 52
  | 1 => (sgn m P i == 98 || sgn m P i == 119) || (sgn m P i == 112 && sgn m P (i - 1) == 48)
  | 2 => sgn m P i == 42 || btwB (sgn m P i) 48 52
  | 3 => sgn m P i == 42 || btwB (sgn m P i) 48 53
  | 4 => btwB (sgn m P i) 49 57
  | _ => sgn m P i == 59
theorem cst1_t {m i : Nat} {P : Nat → Nat} (h : sgn m P i = 98 ∨ sgn m P i = 119 ∨ (sgn m P i = 112 ∧ sgn m P (i - 1) = 48)) : nI 1 = bI (cstB m P 1 i) := by
  have : cstB m P 1 i = true := by
    simp only [cstB, Bool.or_eq_true, Bool.and_eq_true, beq_iff_eq]; omega
  rw [this]; rfl
theorem cst1_f {m i : Nat} {P : Nat → Nat} (h : ¬ (sgn m P i = 98 ∨ sgn m P i = 119 ∨ (sgn m P i = 112 ∧ sgn m P (i - 1) = 48))) : nI 0 = bI (cstB m P 1 i) := by
  have : cstB m P 1 i = false := by
    rw [← Bool.not_eq_true]; simp only [cstB, Bool.or_eq_true, Bool.and_eq_true, beq_iff_eq]; omega
  rw [this]; rfl
theorem cst2_t {m i : Nat} {P : Nat → Nat} (h : sgn m P i = 42 ∨ btwB (sgn m P i) 48 52 = true) : nI 1 = bI (cstB m P 2 i) := by
  have : cstB m P 2 i = true := by
    simp only [cstB, Bool.or_eq_true, beq_iff_eq]; exact h
  rw [this]; rfl
theorem cst2_f {m i : Nat} {P : Nat → Nat} (h : sgn m P i ≠ 42) (h2 : btwB (sgn m P i) 48 52 = false) : nI 0 = bI (cstB m P 2 i) := by
  have : cstB m P 2 i = false := by
    simp only [cstB, h2, Bool.or_false, beq_eq_false_iff_ne]; exact h
  rw [this]; rfl
theorem cst3_t {m i : Nat} {P : Nat → Nat} (h : sgn m P i = 42 ∨ btwB (sgn m P i) 48 53 = true) : nI 1 = bI (cstB m P 3 i) := by
  have : cstB m P 3 i = true := by
    simp only [cstB, Bool.or_eq_true, beq_iff_eq]; exact h
  rw [this]; rfl
theorem cst3_f {m i : Nat} {P : Nat → Nat} (h : sgn m P i ≠ 42) (h2 : btwB (sgn m P i) 48 53 = false) : nI 0 = bI (cstB m P 3 i) := by
  have : cstB m P 3 i = false := by
    simp only [cstB, h2, Bool.or_false, beq_eq_false_iff_ne]; exact h
  rw [this]; rfl
theorem cst5_t {m i : Nat} {P : Nat → Nat} (h : sgn m P i = 59) : nI 1 = bI (cstB m P 5 i) := by
  have : cstB m P 5 i = true := by simp only [cstB, beq_iff_eq]; exact h
  rw [this]; rfl
theorem cst5_f {m i : Nat} {P : Nat → Nat} (h : sgn m P i ≠ 59) : nI 0 = bI (cstB m P 5 i) := by
  have : cstB m P 5 i = false := by simp only [cstB, beq_eq_false_iff_ne]; exact h
  rw [this]; rfl
def plA (m : Nat) (P : Nat → Nat) (pl i : Nat) : Nat := if pl = 5 then 0 else if pl = 3 ∧ sgn m P (i - 2) = 112 then 5 else pl + 1
def ffK (m : Nat) (P : Nat → Nat) : Nat → Nat → Nat → Int32
  | 0, _, pl => if pl = 5 then -6 else nI m
  | k + 1, i, pl => if cstB m P pl i = true then ffK m P k (i + 1) (plA m P pl i) else nI i
def ffT (m : Nat) (P : Nat → Nat) (i pl : Nat) : Int32 := ffK m P (m - i) i pl
theorem ff_s {m : Nat} {P : Nat → Nat} {i pl : Nat} (h : i < m) : ffT m P i pl = if cstB m P pl i = true then ffT m P (i + 1) (plA m P pl i) else nI i := by
  unfold ffT
  rw [show m - i = (m - (i + 1)) + 1 by omega, ffK]
theorem ff_e {m : Nat} {P : Nat → Nat} {i pl : Nat} (h : m ≤ i) : ffT m P i pl = if pl = 5 then -6 else nI m := by
  unfold ffT
  rw [show m - i = 0 by omega, ffK]
def rgt (m : Nat) (P : Nat → Nat) (p : Nat) : Nat :=
  if btwB (sgn m P p) 48 52 = false then 0
  else if kindK (sgn m P (p + 1)) = 3 ∨ (kindK (sgn m P (p + 1)) = 0 ∧ sgn m P p ≠ 48) then 1
  else if ¬ (sgn m P (p + 2) = 42 ∨ btwB (sgn m P (p + 2)) 48 52 = true) then 2
  else if ¬ (sgn m P (p + 3) = 42 ∨ btwB (sgn m P (p + 3)) 48 53 = true) then 3
  else if kindK (sgn m P (p + 1)) ≠ 0 ∧ btwB (sgn m P (p + 4)) 49 57 = true then 5 else 4
def whl (m : Nat) (P : Nat → Nat) (p : Nat) : Nat := if sgn m P (p + 1) = 112 then 4 else 5
def wrK (m : Nat) (P : Nat → Nat) : Nat → Nat → Nat → Int32 × Nat
  | 0, _, t => (-6, t)
  | k + 1, p, t => if rgt m P p < whl m P p then (nI (p + rgt m P p), t) else if p + rgt m P p < m then (if sgn m P (p + rgt m P p) = 59 then wrK m P k (p + rgt m P p + 1) (t + 1) else (nI (p + rgt m P p), t + 1)) else (-6, t + 1)
theorem sgn_in {m : Nat} {P : Nat → Nat} {i : Nat} (h : 0 < sgn m P i) : i < m := by
  unfold sgn at h; split at h
  · assumption
  · omega
theorem btw_in {m : Nat} {P : Nat → Nat} {i lo hi : Nat} (h : btwB (sgn m P i) (lo + 1) hi = true) : i < m := by
  simp only [btwB, Bool.and_eq_true, decide_eq_true_eq] at h
  exact sgn_in (P := P) (by omega)
theorem ff_0 {m : Nat} {P : Nat → Nat} {i : Nat} (h : i ≤ m) : ffT m P i 0 = if btwB (sgn m P i) 48 52 = true then ffT m P (i + 1) 1 else nI i := by
  rcases Nat.lt_or_ge i m with g | g
  · rw [ff_s g]; rfl
  · have : i = m := by omega
    subst this
    rw [ff_e g, if_neg (by decide), if_neg]
    intro k; have := btw_in k; omega
theorem ff_1 {m : Nat} {P : Nat → Nat} {i : Nat} (h : i ≤ m) : ffT m P i 1 = if (sgn m P i = 98 ∨ sgn m P i = 119 ∨ (sgn m P i = 112 ∧ sgn m P (i - 1) = 48)) then ffT m P (i + 1) 2 else nI i := by
  rcases Nat.lt_or_ge i m with g | g
  · rw [ff_s g]
    have e : cstB m P 1 i = true ↔ (sgn m P i = 98 ∨ sgn m P i = 119 ∨ (sgn m P i = 112 ∧ sgn m P (i - 1) = 48)) := by
      simp only [cstB, Bool.or_eq_true, Bool.and_eq_true, beq_iff_eq]; omega
    by_cases k : cstB m P 1 i = true
    · rw [if_pos k, if_pos (e.mp k)]; rfl
    · rw [if_neg k, if_neg (fun q => k (e.mpr q))]
  · have : i = m := by omega
    subst this
    rw [ff_e g, if_neg (by decide), if_neg]
    intro k
    have := sgn_in (m := i) (P := P) (i := i) (by omega); omega
theorem ff_2 {m : Nat} {P : Nat → Nat} {i : Nat} (h : i ≤ m) : ffT m P i 2 = if (sgn m P i = 42 ∨ btwB (sgn m P i) 48 52 = true) then ffT m P (i + 1) 3 else nI i := by
  rcases Nat.lt_or_ge i m with g | g
  · rw [ff_s g]
    have e : cstB m P 2 i = true ↔ (sgn m P i = 42 ∨ btwB (sgn m P i) 48 52 = true) := by
      simp only [cstB, Bool.or_eq_true, beq_iff_eq]
    by_cases k : cstB m P 2 i = true
    · rw [if_pos k, if_pos (e.mp k)]; rfl
    · rw [if_neg k, if_neg (fun q => k (e.mpr q))]
  · have : i = m := by omega
    subst this
    rw [ff_e g, if_neg (by decide), if_neg]
    rintro (k | k)
    · have := sgn_in (m := i) (P := P) (i := i) (by omega); omega
    · have := btw_in k; omega
theorem ff_3 {m : Nat} {P : Nat → Nat} {i : Nat} (h : i ≤ m) : ffT m P i 3 = if (sgn m P i = 42 ∨ btwB (sgn m P i) 48 53 = true) then ffT m P (i + 1) (if sgn m P (i - 2) = 112 then 5 else 4) else nI i := by
  rcases Nat.lt_or_ge i m with g | g
  · rw [ff_s g]
    have e : cstB m P 3 i = true ↔ (sgn m P i = 42 ∨ btwB (sgn m P i) 48 53 = true) := by
      simp only [cstB, Bool.or_eq_true, beq_iff_eq]
    have e2 : plA m P 3 i = if sgn m P (i - 2) = 112 then 5 else 4 := by
      unfold plA; simp
    by_cases k : cstB m P 3 i = true
    · rw [if_pos k, if_pos (e.mp k), e2]
    · rw [if_neg k, if_neg (fun q => k (e.mpr q))]
  · have : i = m := by omega
    subst this
    rw [ff_e g, if_neg (by decide), if_neg]
    rintro (k | k)
    · have := sgn_in (m := i) (P := P) (i := i) (by omega); omega
    · have := btw_in k; omega
theorem ff_4 {m : Nat} {P : Nat → Nat} {i : Nat} (h : i ≤ m) : ffT m P i 4 = if btwB (sgn m P i) 49 57 = true then ffT m P (i + 1) 5 else nI i := by
  rcases Nat.lt_or_ge i m with g | g
  · rw [ff_s g]; rfl
  · have : i = m := by omega
    subst this
    rw [ff_e g, if_neg (by decide), if_neg]
    intro k; have := btw_in k; omega
theorem ff_5 {m : Nat} {P : Nat → Nat} {i : Nat} (h : i ≤ m) : ffT m P i 5 = if i < m then (if sgn m P i = 59 then ffT m P (i + 1) 0 else nI i) else -6 := by
  rcases Nat.lt_or_ge i m with g | g
  · rw [if_pos g, ff_s g]
    have e : cstB m P 5 i = true ↔ sgn m P i = 59 := by simp only [cstB, beq_iff_eq]
    by_cases k : cstB m P 5 i = true
    · rw [if_pos k, if_pos (e.mp k)]; rfl
    · rw [if_neg k, if_neg (fun q => k (e.mpr q))]
  · rw [if_neg (by omega), ff_e g]; rfl
theorem ff_wr {m : Nat} {P : Nat → Nat} : ∀ (k p t : Nat), p ≤ m → m < p + k → ffT m P p 0 = (wrK m P k p t).1
  | 0, p, t, h1, h2 => by omega
  | k + 1, p, t, h1, h2 => by
    rw [ff_0 h1, wrK]
    unfold rgt
    cases c0 : btwB (sgn m P p) 48 52
    · have : 0 < whl m P p := by unfold whl; split <;> omega
      simp [this]
    · have g0 := btw_in c0
      simp only [if_true, Bool.true_eq_false, if_false]
      rw [ff_1 (by omega), Nat.add_sub_cancel]
      by_cases c1 : (sgn m P (p + 1) = 98 ∨ sgn m P (p + 1) = 119 ∨ (sgn m P (p + 1) = 112 ∧ sgn m P p = 48))
      · have g1 : p + 1 < m := sgn_in (P := P) (by omega)
        have k1 : ¬ (kindK (sgn m P (p + 1)) = 3 ∨ (kindK (sgn m P (p + 1)) = 0 ∧ sgn m P p ≠ 48)) := by
          unfold kindK; split
          · omega
          · split
            · omega
            · split <;> omega
        rw [if_pos c1, if_neg k1, show p + 1 + 1 = p + 2 from rfl, ff_2 (by omega)]
        by_cases c2 : (sgn m P (p + 2) = 42 ∨ btwB (sgn m P (p + 2)) 48 52 = true)
        · have g2 : p + 2 < m := by
            rcases c2 with c | c
            · exact sgn_in (P := P) (by omega)
            · exact btw_in c
          rw [if_pos c2, if_neg (show ¬ ¬ (sgn m P (p + 2) = 42 ∨ btwB (sgn m P (p + 2)) 48 52 = true) from fun q => q c2), show p + 2 + 1 = p + 3 from rfl, ff_3 (by omega)]
          by_cases c3 : (sgn m P (p + 3) = 42 ∨ btwB (sgn m P (p + 3)) 48 53 = true)
          · have g3 : p + 3 < m := by
              rcases c3 with c | c
              · exact sgn_in (P := P) (by omega)
              · exact btw_in c
            rw [if_pos c3, if_neg (show ¬ ¬ (sgn m P (p + 3) = 42 ∨ btwB (sgn m P (p + 3)) 48 53 = true) from fun q => q c3)]
            rw [show p + 3 + 1 = p + 4 from rfl, show p + 3 - 2 = p + 1 from rfl]
            by_cases c4 : sgn m P (p + 1) = 112
            · have e1 : whl m P p = 4 := by unfold whl; rw [if_pos c4]
              have e2 : kindK (sgn m P (p + 1)) = 0 := by unfold kindK; rw [if_pos c4]
              rw [if_pos c4, e1, if_neg (show ¬ (kindK (sgn m P (p + 1)) ≠ 0 ∧ btwB (sgn m P (p + 4)) 49 57 = true) by rw [e2]; simp), if_neg (by omega), ff_5 (by omega)]
              split
              · split
                · exact ff_wr k (p + 4 + 1) (t + 1) (by omega) (by omega)
                · rfl
              · rfl
            · have e1 : whl m P p = 5 := by unfold whl; rw [if_neg c4]
              have e2 : kindK (sgn m P (p + 1)) ≠ 0 := by
                unfold kindK; rw [if_neg c4]; split
                · omega
                · split <;> omega
              rw [if_neg c4, e1, ff_4 (by omega)]
              by_cases c5 : btwB (sgn m P (p + 4)) 49 57 = true
              · have g5 := btw_in c5
                rw [if_pos c5, if_pos (show kindK (sgn m P (p + 1)) ≠ 0 ∧ btwB (sgn m P (p + 4)) 49 57 = true from ⟨e2, c5⟩), if_neg (Nat.lt_irrefl 5), show p + 4 + 1 = p + 5 from rfl, ff_5 (by omega)]
                split
                · split
                  · exact ff_wr k (p + 5 + 1) (t + 1) (by omega) (by omega)
                  · rfl
                · rfl
              · rw [if_neg c5, if_neg (show ¬ (kindK (sgn m P (p + 1)) ≠ 0 ∧ btwB (sgn m P (p + 4)) 49 57 = true) from fun q => c5 q.2), if_pos (by omega)]
          · rw [if_neg c3, if_pos c3]
            have : 3 < whl m P p := by unfold whl; split <;> omega
            rw [if_pos this]
        · rw [if_neg c2, if_pos c2]
          have : 2 < whl m P p := by unfold whl; split <;> omega
          rw [if_pos this]
      · have k1 : (kindK (sgn m P (p + 1)) = 3 ∨ (kindK (sgn m P (p + 1)) = 0 ∧ sgn m P p ≠ 48)) := by
          unfold kindK; split
          · right; omega
          · split
            · omega
            · split
              · omega
              · left; rfl
        rw [if_neg c1, if_pos k1]
        have : 1 < whl m P p := by unfold whl; split <;> omega
        rw [if_pos this]
