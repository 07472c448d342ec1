/-! What the law's own small methods answer, in numbers; the law's own way to the reason is the charter's. -/
def loN (v : Int32) : Nat := (v &&& 2147483647).toBitVec.toNat
theorem lo_msb (v : Int32) : (v &&& 2147483647 : Int32).toBitVec.msb = false := by
  rw [Int32.toBitVec_and, BitVec.msb_and, show (2147483647 : Int32).toBitVec.msb = false from by decide, Bool.and_false]
theorem lo_and (v : Int32) : v &&& 2147483647 = nI (loN v) :=
  Int32.toBitVec_inj.mp (show (v &&& 2147483647 : Int32).toBitVec = BitVec.ofNat 32 (v &&& 2147483647 : Int32).toBitVec.toNat by rw [BitVec.ofNat_toNat, BitVec.setWidth_eq])
theorem lo_lt (v : Int32) : loN v < 2 ^ 31 := by
  have := BitVec.msb_eq_false_iff_two_mul_lt.mp (lo_msb v)
  unfold loN; omega
theorem lo_mod {v : Int32} {n : Nat} (h : 0 < n) : loN v % n < n := Nat.mod_lt _ h
def fitQ (x y c d : Nat) : Bool := (x == c || x == 5) && (y == d || y == 6)
theorem fq_t {x y c d : Nat} (h1 : x = c ∨ x = 5) (h2 : y = d ∨ y = 6) : nI 1 = bI (fitQ x y c d) := by
  have : fitQ x y c d = true := by
    unfold fitQ; simp only [Bool.and_eq_true, Bool.or_eq_true, beq_iff_eq]; exact ⟨h1, h2⟩
  rw [this]; rfl
theorem fq_f {x y c d : Nat} (h : ¬ (x = c ∨ x = 5) ∨ ¬ (y = d ∨ y = 6)) : nI 0 = bI (fitQ x y c d) := by
  have : fitQ x y c d = false := by
    cases e : fitQ x y c d
    · rfl
    · unfold fitQ at e; simp only [Bool.and_eq_true, Bool.or_eq_true, beq_iff_eq] at e
      rcases h with h | h
      · exact absurd e.1 h
      · exact absurd e.2 h
  rw [this]; rfl
theorem fq_T (T : Nat → Nat → Nat) (j c d : Nat) : fitQ (T j 2) (T j 3) c d = fitT T j c d := rfl
/-- five numbers of a rule, read one after another -/
def rdF (V : Nat → Nat) (i : Nat) (g : Nat → Int32) (e : Nat) : Nat → Int32 := fun w => if w < e then nI (TV V i w) else g w
theorem rdF_0 (V : Nat → Nat) (i : Nat) (g : Nat → Int32) : g = rdF V i g 0 := by
  funext w; unfold rdF; rw [if_neg (Nat.not_lt_zero w)]
theorem rdF_s (V : Nat → Nat) (i : Nat) (g : Nat → Int32) (e : Nat) : upd (rdF V i g e) e (nI (TV V i e)) = rdF V i g (e + 1) := by
  funext w; unfold upd rdF
  by_cases h : w = e
  · subst h; rw [if_pos rfl, if_pos (by omega)]
  · rw [if_neg h]
    by_cases h2 : w < e
    · rw [if_pos h2, if_pos (by omega)]
    · rw [if_neg h2, if_neg (by omega)]
theorem rd_at {V : Nat → Nat} {i w : Nat} {g : Nat → Int32} (h : w < 5) : rdF V i g 5 w = nI (TV V i w) := by unfold rdF; rw [if_pos h]
theorem ru_lt {V : Nat → Nat} {i w : Nat} (h : w < 5) : ruV V i w = nI (TV V i w) := by
  unfold ruV; rw [if_neg (by omega), if_neg (by omega), if_neg (by omega)]
theorem ru_1 {V : Nat → Nat} {i : Nat} : ruV V i 1 = nI (TV V i 1) := ru_lt (by decide)
theorem ru_5 {V : Nat → Nat} {i : Nat} : ruV V i 5 = bI (idB V i) := by unfold ruV; rw [if_pos rfl]
theorem ru_6 {V : Nat → Nat} {i : Nat} : ruV V i 6 = nI (cntN (V 0) (fun j => oddT (TV V) i j)) := by unfold ruV; rw [if_neg (by decide), if_pos rfl]
theorem ru_7 {V : Nat → Nat} {i : Nat} : ruV V i 7 = nI ((if TV V i 2 = 5 then 5 else 1) * (if TV V i 3 = 6 then 6 else 1)) := by unfold ruV; rw [if_neg (by decide), if_neg (by decide), if_pos rfl]
theorem nI_n1 {n : Nat} (h : n < 2 ^ 31) : ¬ nI n = -1 := by
  intro e
  have := congrArg Int32.toInt e
  rw [nI_toInt h] at this
  have h2 : (-1 : Int32).toInt = -1 := by decide
  rw [h2] at this; omega
-- the law's own way to the reason
def pmW (V : Nat → Nat) (c d k : Nat) : Bool := anyN k (fun j => TV V j 1 == 0 && fitT (TV V) j c d)
def hdW (V : Nat → Nat) (c d b j : Nat) : Bool := !anyN j (fun w => liftT (TV V) w b && fitT (TV V) w c d)
def rsG (V : Nat → Nat) (c d rk : Nat) : Nat → Int32 × Nat
  | 0 => ((-6), 9)
  | i + 1 => if hitT (V 0) (TV V) c d rk i = true ∧ TV V i 0 < (rsG V c d rk i).2 then (nI i, TV V i 0) else rsG V c d rk i
theorem pm_1 {V : Nat → Nat} {c d k : Nat} (h : pmW V c d k = true ∨ (TV V k 1 = 0 ∧ fitT (TV V) k c d = true)) : nI 1 = bI (pmW V c d (k + 1)) := by
  have : pmW V c d (k + 1) = true := by
    unfold pmW at h ⊢; rw [anyN]
    rcases h with h | ⟨h1, h2⟩
    · rw [h]; rfl
    · rw [h1, h2]; simp
  rw [this]; rfl
theorem pm_0 {V : Nat → Nat} {c d k : Nat} (h : pmW V c d k = false) (h2 : TV V k 1 ≠ 0 ∨ fitT (TV V) k c d = false) : nI 0 = bI (pmW V c d (k + 1)) := by
  have : pmW V c d (k + 1) = false := by
    unfold pmW at h ⊢; rw [anyN, h]
    rcases h2 with h2 | h2
    · have : (TV V k 1 == 0) = false := by simpa using h2
      rw [this]; rfl
    · rw [h2]; simp
  rw [this]; rfl
theorem hd_0 {V : Nat → Nat} {c d b j : Nat} (h : hdW V c d b j = false ∨ (TV V j 1 = 2 ∧ fitT (TV V) j c d = true ∧ TV V j 0 ≤ TV V b 0 ∧ TV V b 4 ≤ TV V j 4)) : nI 0 = bI (hdW V c d b (j + 1)) := by
  have : hdW V c d b (j + 1) = false := by
    unfold hdW at h ⊢; rw [anyN]
    rcases h with h | ⟨h1, h2, h3, h4⟩
    · rw [Bool.not_eq_false'] at h; rw [h]; rfl
    · have e : liftT (TV V) j b = true := by unfold liftT; simp [h1, h3, h4]
      rw [e, h2]; simp
  rw [this]; rfl
theorem hd_1 {V : Nat → Nat} {c d b j : Nat} (h : hdW V c d b j = true) (h2 : TV V j 1 ≠ 2 ∨ fitT (TV V) j c d = false ∨ TV V b 0 < TV V j 0 ∨ TV V j 4 < TV V b 4) : nI 1 = bI (hdW V c d b (j + 1)) := by
  have : hdW V c d b (j + 1) = true := by
    unfold hdW at h ⊢; rw [anyN]
    rw [Bool.not_eq_true'] at h
    have e : (liftT (TV V) j b && fitT (TV V) j c d) = false := by
      rcases h2 with h2 | h2 | h2 | h2
      · unfold liftT; simp [h2]
      · rw [h2, Bool.and_false]
      · unfold liftT; simp [Nat.not_le.mpr h2]
      · unfold liftT; simp [Nat.not_le.mpr h2]
    rw [h, e]; rfl
  rw [this]; rfl
theorem hit_at {V : Nat → Nat} {c d rk k : Nat} (h1 : TV V k 1 = 1) (h2 : fitT (TV V) k c d = true) (h3 : rk < TV V k 4) : hitT (V 0) (TV V) c d rk k = hdW V c d k (V 0) := by
  unfold hitT holdT hdW; rw [h1, h2, decide_eq_true h3]; simp
theorem hit_no {V : Nat → Nat} {c d rk k : Nat} (h : TV V k 1 ≠ 1 ∨ fitT (TV V) k c d = false ∨ TV V k 4 ≤ rk) : hitT (V 0) (TV V) c d rk k = false := by
  unfold hitT holdT
  rcases h with h | h | h
  · simp [h]
  · rw [h]; simp
  · rw [decide_eq_false (Nat.not_lt.mpr h)]; simp
theorem rg_n {V : Nat → Nat} {c d rk k : Nat} (h : hitT (V 0) (TV V) c d rk k = false ∨ (rsG V c d rk k).2 ≤ TV V k 0) : rsG V c d rk (k + 1) = rsG V c d rk k := by
  rw [rsG, if_neg]
  rintro ⟨a, b⟩
  rcases h with h | h
  · rw [h] at a; cases a
  · omega
theorem rg_t {V : Nat → Nat} {c d rk k : Nat} (h : hitT (V 0) (TV V) c d rk k = true) (h2 : TV V k 0 < (rsG V c d rk k).2) : rsG V c d rk (k + 1) = (nI k, TV V k 0) := by
  rw [rsG, if_pos ⟨h, h2⟩]
theorem rg_le {V : Nat → Nat} {c d rk : Nat} (hW : WfT (V 0) (TV V)) : ∀ k, k ≤ V 0 → (rsG V c d rk k).2 ≤ 9
  | 0, _ => Nat.le_refl 9
  | k + 1, h => by
    rw [rsG]
    have h1 := rg_le hW k (by omega) (c := c) (d := d) (rk := rk)
    have h2 := hW k (by omega)
    split
    · show TV V k 0 ≤ 9; omega
    · exact h1
theorem rg_rs {V : Nat → Nat} {c d rk : Nat} (hW : WfT (V 0) (TV V)) : ∀ k, k ≤ V 0 → (rsG V c d rk k).1 = (rsF (V 0) (TV V) c d rk k).1 ∧ (rsG V c d rk k).2 = if (rsF (V 0) (TV V) c d rk k).2 = 5 then 9 else (rsF (V 0) (TV V) c d rk k).2
  | 0, _ => ⟨rfl, rfl⟩
  | k + 1, h => by
    obtain ⟨h1, h2⟩ := rg_rs hW k (by omega) (c := c) (d := d) (rk := rk)
    have h3 := hW k (by omega)
    have h5 := rsF_le (n := V 0) (T := TV V) (c := c) (d := d) (rk := rk) k
    rw [rsG, rsF]
    by_cases a : hitT (V 0) (TV V) c d rk k = true
    · by_cases b : TV V k 0 < (rsF (V 0) (TV V) c d rk k).2
      · have b2 : TV V k 0 < (rsG V c d rk k).2 := by rw [h2]; split <;> omega
        rw [if_pos ⟨a, b2⟩, if_pos ⟨a, b⟩]
        refine ⟨rfl, ?_⟩
        show TV V k 0 = if TV V k 0 = 5 then 9 else TV V k 0
        rw [if_neg (by omega)]
      · have b2 : ¬ TV V k 0 < (rsG V c d rk k).2 := by rw [h2]; split <;> omega
        rw [if_neg (fun q => b2 q.2), if_neg (fun q => b q.2)]
        exact ⟨h1, h2⟩
    · rw [if_neg (fun q => a q.1), if_neg (fun q => a q.1)]
      exact ⟨h1, h2⟩
theorem pm_perm {V : Nat → Nat} {c d : Nat} : pmW V c d (V 0) = permT (V 0) (TV V) c d := rfl
theorem why_t {V : Nat → Nat} {c d rk : Nat} (hW : WfT (V 0) (TV V)) (h : pmW V c d (V 0) = true) : (rsG V c d rk (V 0)).1 = rsnT (V 0) (TV V) c d rk := by
  unfold rsnT; rw [pm_perm] at h; rw [if_pos h]; exact (rg_rs hW (V 0) (Nat.le_refl _)).1
theorem why_f {V : Nat → Nat} {c d rk : Nat} (h : pmW V c d (V 0) = false) : nI 100 = rsnT (V 0) (TV V) c d rk := by
  unfold rsnT; rw [pm_perm] at h; rw [if_neg (by rw [h]; decide)]
