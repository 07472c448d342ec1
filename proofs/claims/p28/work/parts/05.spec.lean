/-! What the charter means, in plain numbers: a table T of rules (T j w: rule j's layer 0, kind 1, craft 2, deed 3, seal 4), n of them. -/
def bt (x : Int32) (i : Nat) : Bool := x.toBitVec.getLsbD i
theorem b_ext {x y : Int32} (h : ∀ i, i < 32 → bt x i = bt y i) : x = y := Int32.toBitVec_inj.mp (BitVec.eq_of_getLsbD_eq (fun i hi => h i hi))
theorem b_or (x y : Int32) (i : Nat) : bt (x ||| y) i = (bt x i || bt y i) := by unfold bt; rw [Int32.toBitVec_or, BitVec.getLsbD_or]
theorem b_and (x y : Int32) (i : Nat) : bt (x &&& y) i = (bt x i && bt y i) := by unfold bt; rw [Int32.toBitVec_and, BitVec.getLsbD_and]
theorem b_xor (x y : Int32) (i : Nat) : bt (x ^^^ y) i = (bt x i ^^ bt y i) := by unfold bt; rw [Int32.toBitVec_xor, BitVec.getLsbD_xor]
theorem b_m1 : ∀ i, i < 32 → bt (-1) i = true := by decide +kernel
theorem b_0 (i : Nat) : bt 0 i = false := BitVec.getLsbD_zero
theorem s_l : ∀ n, n < 32 → ((nI n &&& 31).toBitVec.smod 32).toNat = n := by decide +kernel
theorem b_shl (n : Nat) (hn : n < 32) (x : Int32) {i : Nat} (hi : i < 32) : bt (x <<< (nI n &&& 31)) i = (decide (n ≤ i) && bt x (i - n)) := by
  unfold bt
  rw [Int32.toBitVec_shiftLeft]
  show (x.toBitVec <<< ((nI n &&& 31).toBitVec.smod 32).toNat).getLsbD i = _
  rw [s_l n hn, BitVec.getLsbD_shiftLeft]
  rcases Nat.lt_or_ge i n with h | h
  · simp [h, Nat.not_le.mpr h]
  · simp [hi, h, Nat.not_lt.mpr h]
theorem b_sshr (n : Nat) (hn : n < 32) (x : Int32) {i : Nat} (hi : i < 32) : bt (x >>> (nI n &&& 31)) i = if n + i < 32 then bt x (n + i) else bt x 31 := by
  unfold bt
  rw [Int32.toBitVec_shiftRight]
  show (x.toBitVec.sshiftRight ((nI n &&& 31).toBitVec.smod 32).toNat).getLsbD i = _
  rw [s_l n hn, BitVec.getLsbD_sshiftRight, BitVec.msb_eq_getLsbD_last]
  simp [hi]
theorem bt_nI (n : Nat) (i : Nat) (hi : i < 32) : bt (nI n) i = n.testBit i := by
  show (BitVec.ofNat 32 n).getLsbD i = _
  rw [BitVec.getLsbD_ofNat]; simp [hi]
-- counting with a bound
def anyN : Nat → (Nat → Bool) → Bool
  | 0, _ => false
  | n + 1, p => anyN n p || p n
def maxN : Nat → (Nat → Nat) → Nat
  | 0, _ => 0
  | n + 1, f => max (maxN n f) (f n)
def sumN : Nat → (Nat → Nat) → Nat
  | 0, _ => 0
  | n + 1, f => sumN n f + f n
def cntN (n : Nat) (p : Nat → Bool) : Nat := sumN n (fun i => if p i = true then 1 else 0)
theorem anyN_true {n : Nat} {p : Nat → Bool} : anyN n p = true ↔ ∃ i, i < n ∧ p i = true := by
  induction n with
  | zero => simp [anyN]
  | succ n ih =>
    simp only [anyN, Bool.or_eq_true, ih]
    constructor
    · rintro (⟨i, h, g⟩ | h)
      · exact ⟨i, by omega, g⟩
      · exact ⟨n, by omega, h⟩
    · rintro ⟨i, h, g⟩
      rcases Nat.lt_or_ge i n with q | q
      · exact Or.inl ⟨i, q, g⟩
      · have : i = n := by omega
        subst this; exact Or.inr g
theorem anyN_false {n : Nat} {p : Nat → Bool} : anyN n p = false ↔ ∀ i, i < n → p i = false := by
  constructor
  · intro h i hi
    cases hp : p i with
    | false => rfl
    | true => rw [anyN_true.mpr ⟨i, hi, hp⟩] at h; cases h
  · intro h
    cases ha : anyN n p with
    | false => rfl
    | true =>
      obtain ⟨i, hi, hp⟩ := anyN_true.mp ha
      rw [h i hi] at hp; cases hp
theorem anyN_cong {n : Nat} {p q : Nat → Bool} (h : ∀ i, i < n → p i = q i) : anyN n p = anyN n q := by
  induction n with
  | zero => rfl
  | succ n ih => rw [anyN, anyN, ih (fun i hi => h i (by omega)), h n (by omega)]
theorem maxN_cong {n : Nat} {f g : Nat → Nat} (h : ∀ i, i < n → f i = g i) : maxN n f = maxN n g := by
  induction n with
  | zero => rfl
  | succ n ih => rw [maxN, maxN, ih (fun i hi => h i (by omega)), h n (by omega)]
theorem sumN_cong {n : Nat} {f g : Nat → Nat} (h : ∀ i, i < n → f i = g i) : sumN n f = sumN n g := by
  induction n with
  | zero => rfl
  | succ n ih => rw [sumN, sumN, ih (fun i hi => h i (by omega)), h n (by omega)]
theorem maxN_le {n k : Nat} {f : Nat → Nat} : maxN n f ≤ k ↔ ∀ i, i < n → f i ≤ k := by
  induction n with
  | zero => simp [maxN]
  | succ n ih =>
    rw [maxN, Nat.max_le, ih]
    constructor
    · rintro ⟨h, g⟩ i hi
      rcases Nat.lt_or_ge i n with q | q
      · exact h i q
      · have : i = n := by omega
        subst this; exact g
    · intro h; exact ⟨fun i hi => h i (by omega), h n (by omega)⟩
theorem maxN_ge {n i : Nat} {f : Nat → Nat} (h : i < n) : f i ≤ maxN n f := maxN_le.mp (Nat.le_refl _) i h
theorem sumN_le {n c : Nat} {f : Nat → Nat} (h : ∀ i, i < n → f i ≤ c) : sumN n f ≤ n * c := by
  induction n with
  | zero => simp [sumN]
  | succ n ih =>
    have := ih (fun i hi => h i (by omega))
    have := h n (by omega)
    rw [sumN, Nat.succ_mul]; omega
theorem sumN_mono {n : Nat} {f g : Nat → Nat} (h : ∀ i, i < n → f i ≤ g i) : sumN n f ≤ sumN n g := by
  induction n with
  | zero => exact Nat.le_refl _
  | succ n ih =>
    have := ih (fun i hi => h i (by omega))
    have := h n (by omega)
    rw [sumN, sumN]; omega
theorem sumN_eq {n : Nat} {f g : Nat → Nat} (h : ∀ i, i < n → f i ≤ g i) (e : sumN n f = sumN n g) : ∀ i, i < n → f i = g i := by
  induction n with
  | zero => intro i hi; omega
  | succ n ih =>
    have h1 := sumN_mono (fun i (hi : i < n) => h i (by omega))
    have h2 := h n (by omega)
    rw [sumN, sumN] at e
    intro i hi
    rcases Nat.lt_or_ge i n with q | q
    · exact ih (fun i hi => h i (by omega)) (by omega) i q
    · have : i = n := by omega
      subst this; omega
theorem sumN_add {n : Nat} (f g : Nat → Nat) : sumN n (fun i => f i + g i) = sumN n f + sumN n g := by
  induction n with
  | zero => rfl
  | succ n ih => rw [sumN, sumN, sumN, ih]; omega
theorem sumN_zero {n : Nat} : sumN n (fun _ => 0) = 0 := by
  induction n with
  | zero => rfl
  | succ n ih => rw [sumN, ih]
theorem sumN_swap {n m : Nat} (f : Nat → Nat → Nat) : sumN n (fun i => sumN m (fun j => f i j)) = sumN m (fun j => sumN n (fun i => f i j)) := by
  induction n with
  | zero => rw [sumN]; exact sumN_zero.symm
  | succ n ih => rw [sumN, ih, ← sumN_add]; rfl
-- masks of 30 bits
def maskN : Nat → (Nat → Bool) → Nat
  | 0, _ => 0
  | n + 1, p => maskN n p ||| (if p n = true then 2 ^ n else 0)
theorem maskN_bit (p : Nat → Bool) : ∀ (n i : Nat), (maskN n p).testBit i = (decide (i < n) && p i)
  | 0, i => by simp [maskN]
  | n + 1, i => by
    rw [maskN, Nat.testBit_or, maskN_bit p n i]
    by_cases hi : i = n
    · subst hi
      cases h : p i <;> simp [h]
    · cases h : p n
      · by_cases h2 : i < n
        · simp [h2, show i < n + 1 by omega]
        · simp [h2, show ¬ i < n + 1 by omega]
      · rw [if_pos rfl, Nat.testBit_two_pow]
        by_cases h2 : i < n
        · simp [h2, show i < n + 1 by omega, show ¬ n = i by omega]
        · simp [h2, show ¬ i < n + 1 by omega, show ¬ n = i by omega]
theorem maskN_lt (p : Nat → Bool) (n : Nat) : maskN n p < 2 ^ n := by
  apply Nat.lt_pow_two_of_testBit
  intro i hi
  rw [maskN_bit]; simp [Nat.not_lt.mpr hi]
def mk (p : Nat → Bool) : Int32 := nI (maskN 30 p)
theorem bt_mk (p : Nat → Bool) {i : Nat} (hi : i < 32) : bt (mk p) i = (decide (i < 30) && p i) := by
  unfold mk; rw [bt_nI _ _ hi, maskN_bit]
theorem mk_cong {p q : Nat → Bool} (h : ∀ i, i < 30 → p i = q i) : mk p = mk q := by
  apply b_ext; intro i hi
  rw [bt_mk p hi, bt_mk q hi]
  by_cases h2 : i < 30
  · rw [h i h2]
  · simp [h2]
theorem mk_or (p q : Nat → Bool) : mk p ||| mk q = mk (fun i => p i || q i) := by
  apply b_ext; intro i hi
  rw [b_or, bt_mk p hi, bt_mk q hi, bt_mk _ hi]
  by_cases h2 : i < 30 <;> simp [h2]
theorem mk_and (p q : Nat → Bool) : mk p &&& mk q = mk (fun i => p i && q i) := by
  apply b_ext; intro i hi
  rw [b_and, bt_mk p hi, bt_mk q hi, bt_mk _ hi]
  by_cases h2 : i < 30 <;> simp [h2]
theorem mk_andnot (p q : Nat → Bool) : mk p &&& (mk q ^^^ (-1)) = mk (fun i => p i && !q i) := by
  apply b_ext; intro i hi
  rw [b_and, b_xor, b_m1 i hi, bt_mk p hi, bt_mk q hi, bt_mk _ hi]
  by_cases h2 : i < 30 <;> simp [h2]
theorem mk_0 : mk (fun _ => false) = nI 0 := by
  apply b_ext; intro i hi
  rw [bt_mk _ hi, nI_0, b_0]; simp
theorem mk_zero {p : Nat → Bool} : mk p = 0 ↔ ∀ i, i < 30 → p i = false := by
  constructor
  · intro h i hi
    have := bt_mk p (i := i) (by omega)
    rw [h, b_0] at this
    simpa [hi] using this.symm
  · intro h
    rw [mk_cong (q := fun _ => false) h, mk_0, nI_0]
/-- a craft (or 5) and a deed (or 6) fit the pair q -/
def pfit (c d q : Nat) : Bool := (c == q / 6 || c == 5) && (d == q % 6 || d == 6)
theorem mk_one {c d : Nat} (hc : c < 5) (hd : d < 6) (p : Nat → Bool) : mk p &&& mk (pfit c d) = 0 ↔ p (6 * c + d) = false := by
  rw [mk_and, mk_zero]
  constructor
  · intro h
    have := h (6 * c + d) (by omega)
    have e1 : (6 * c + d) / 6 = c := by omega
    have e2 : (6 * c + d) % 6 = d := by omega
    simpa [pfit, e1, e2] using this
  · intro h i hi
    by_cases h2 : i = 6 * c + d
    · rw [h2, h]; rfl
    · have : pfit c d i = false := by
        simp only [pfit, Bool.and_eq_false_iff, Bool.or_eq_false_iff, beq_eq_false_iff_ne]
        by_cases h3 : c = i / 6
        · right; constructor <;> omega
        · left; constructor <;> omega
      rw [this, Bool.and_false]
-- the charter
def fitT (T : Nat → Nat → Nat) (j c d : Nat) : Bool := (T j 2 == c || T j 2 == 5) && (T j 3 == d || T j 3 == 6)
def permT (n : Nat) (T : Nat → Nat → Nat) (c d : Nat) : Bool := anyN n (fun j => T j 1 == 0 && fitT T j c d)
def liftT (T : Nat → Nat → Nat) (w b : Nat) : Bool := T w 1 == 2 && (decide (T w 0 ≤ T b 0) && decide (T b 4 ≤ T w 4))
def holdT (n : Nat) (T : Nat → Nat → Nat) (b c d : Nat) : Bool := fitT T b c d && !anyN n (fun w => liftT T w b && fitT T w c d)
def lstT (n : Nat) (T : Nat → Nat → Nat) (c d : Nat) : Nat := if permT n T c d = true then maxN n (fun j => if (T j 1 == 1 && holdT n T j c d) = true then T j 4 else 0) else 10
def trpT (n : Nat) (T : Nat → Nat → Nat) : Nat := sumN 30 (fun q => 10 - lstT n T (q / 6) (q % 6))
/-- the tables' numbers in their ranges -/
def WfT (n : Nat) (T : Nat → Nat → Nat) : Prop := ∀ j, j < n → T j 0 < 5 ∧ T j 1 < 3 ∧ T j 2 ≤ 5 ∧ T j 3 ≤ 6 ∧ 1 ≤ T j 4 ∧ T j 4 ≤ 9
/-- six rows of cells hold the table -/
def relT (f : Nat → Nat → Int32) (n : Nat) (T : Nat → Nat → Nat) : Prop := ∀ j, j < n → f 0 j = nI (T j 0) ∧ f 1 j = nI (T j 1) ∧ f 2 j = nI (T j 2) ∧ f 3 j = nI (T j 3) ∧ f 4 j = nI (T j 4) ∧ f 5 j = mk (pfit (T j 2) (T j 3))
theorem cntN_succ (n : Nat) (p : Nat → Bool) : cntN (n + 1) p = cntN n p + (if p n = true then 1 else 0) := rfl
theorem sumN_succ (n : Nat) (f : Nat → Nat) : sumN (n + 1) f = sumN n f + f n := rfl
/-- an int within bounds -/
def inR (x lo hi : Int32) : Bool := decide (lo ≤ x) && decide (x ≤ hi)
def hasB (n : Nat) (x : Int32) : Bool := decide (0 ≤ x) && decide (x < nI n)
def dmask (d q : Nat) : Bool := decide (q < 6) && (d == q || d == 6)
def lmask (d i q : Nat) : Bool := decide (q < 6 * i) && (d == q % 6 || d == 6)
theorem dmask_6 {d : Nat} (h : d = 6) : nI 63 = mk (dmask d) := by subst h; decide +kernel
theorem dmask_s (d : Nat) (h : d < 6) : (nI 1) <<< (nI d &&& 31) = mk (dmask d) := by
  rcases (show d = 0 ∨ d = 1 ∨ d = 2 ∨ d = 3 ∨ d = 4 ∨ d = 5 by omega) with rfl | rfl | rfl | rfl | rfl | rfl <;> decide +kernel
theorem dmask_sh (d i : Nat) (hi : i < 5) : mk (dmask d) <<< (nI (i * 6) &&& 31) = mk (fun q => (q / 6 == i) && (d == q % 6 || d == 6)) := by
  apply b_ext; intro j hj
  rw [b_shl (i * 6) (by omega) _ hj, bt_mk _ (i := j - i * 6) (by omega), bt_mk _ hj]
  by_cases h1 : j / 6 = i
  · have e1 : j - i * 6 = j % 6 := by omega
    have e2 : i * 6 ≤ j := by omega
    have e3 : j % 6 < 6 := Nat.mod_lt _ (by omega)
    have e4 : j < 30 := by omega
    have e5 : j % 6 < 30 := by omega
    simp [dmask, e1, e2, e3, e4, e5, h1]
  · have e6 : (j / 6 == i) = false := by simp [h1]
    rw [e6]
    by_cases h2 : i * 6 ≤ j
    · have : ¬ j - i * 6 < 6 := by omega
      simp [dmask, this]
    · simp [h2]
theorem dmask_c (c d : Nat) (h : c < 5) : mk (dmask d) <<< (nI (c * 6) &&& 31) = mk (pfit c d) := by
  rw [dmask_sh d c h]
  apply mk_cong; intro i hi
  show ((i / 6 == c) && (d == i % 6 || d == 6)) = ((c == i / 6 || c == 5) && (d == i % 6 || d == 6))
  have e3 : (c == 5) = false := by rw [beq_eq_false_iff_ne]; omega
  by_cases h1 : i / 6 = c
  · rw [h1, e3, Bool.or_false]
  · have e1 : (i / 6 == c) = false := by rw [beq_eq_false_iff_ne]; exact h1
    have e2 : (c == i / 6) = false := by rw [beq_eq_false_iff_ne]; exact fun e => h1 e.symm
    rw [e1, e2, e3]; rfl
theorem lmask_0 (d : Nat) : mk (lmask d 0) = nI 0 := by
  rw [← mk_0]; apply mk_cong; intro i hi; simp [lmask]
theorem lmask_s (d i : Nat) (h : i < 5) : mk (lmask d i) ||| mk (dmask d) <<< (nI (i * 6) &&& 31) = mk (lmask d (i + 1)) := by
  rw [dmask_sh d i h, mk_or]
  apply mk_cong; intro j hj
  unfold lmask
  by_cases h1 : j < 6 * i
  · have : j < 6 * (i + 1) := by omega
    have h2 : ¬ j / 6 = i := by omega
    simp [h1, this, h2]
  · by_cases h2 : j / 6 = i
    · have : j < 6 * (i + 1) := by omega
      simp [h1, this, h2]
    · have : ¬ j < 6 * (i + 1) := by omega
      simp [h1, this, h2]
theorem lmask_5 (c d i : Nat) (hc : c = 5) (hi : i = 5) : mk (lmask d i) = mk (pfit c d) := by
  subst hc; subst hi
  apply mk_cong; intro j hj
  simp [lmask, pfit, hj]
def gapF (f : Nat → Int32) (i e : Nat) : Nat → Int32 := fun j => if i ≤ j ∧ j < e then f (j + 1) else f j
theorem gapF_0 (f : Nat → Int32) (i : Nat) : gapF f i i = f := by
  funext j; unfold gapF; rw [if_neg (by omega)]
theorem gapF_hi (f : Nat → Int32) {i e : Nat} (h : i ≤ e) : gapF f i e (e + 1) = f (e + 1) := by
  unfold gapF; rw [if_neg (by omega)]
theorem gapF_s (f : Nat → Int32) {i e : Nat} (h : i ≤ e) : upd (gapF f i e) e (f (e + 1)) = gapF f i (e + 1) := by
  funext j; unfold upd gapF
  by_cases h1 : j = e
  · subst h1; rw [if_pos rfl, if_pos (by omega)]
  · rw [if_neg h1]
    by_cases h2 : i ≤ j ∧ j < e
    · rw [if_pos h2, if_pos (by omega)]
    · rw [if_neg h2, if_neg (by omega)]
theorem xCpyAll {A : Nat → Prop} {D : va_G} {H : Heap} {a b N : Nat} {cI : ClassId} {f g : Nat → Int32} (hN : N < 2 ^ 31) (hP : va_P D vwCl [(a, .inl (cI, N, .inl f)), (b, .inl (cI, N, .inl (va_cpy f g (nI 0).toNatClampNeg (nI 0).toNatClampNeg (nI N).toNatClampNeg)))] H) (hD : va_D A [(a, .inl (cI, N, .inl f)), (b, .inl (cI, N, .inl (va_cpy f g (nI 0).toNatClampNeg (nI 0).toNatClampNeg (nI N).toNatClampNeg)))]) : va_P D vwCl [(a, .inl (cI, N, .inl f)), (b, .inl (cI, N, .inl f))] H ∧ va_D A [(a, .inl (cI, N, .inl f)), (b, .inl (cI, N, .inl f))] := by
  rw [nI_clamp hN, nI_clamp (show 0 < 2 ^ 31 by omega)] at hP hD
  have e : vp_cell cI (N, .inl (va_cpy f g 0 0 N)) = vp_cell cI (N, .inl f) := by
    rw [vp_cell_i, vp_cell_i]
    unfold arrV
    congr 1
    apply Array.ext
    · simp
    · intro i h1 h2
      have h3 : i < N := by simpa using h1
      simp [va_cpy, h3]
  refine ⟨fun k q hk => ?_, ⟨fun i j p q hi hj hpq => ?_, fun k q hk => ?_⟩⟩
  · match k, hk with
    | 0, hk => exact hP 0 q hk
    | 1, hk =>
      cases hk
      have := hP 1 _ rfl
      show H[b]? = some (vp_cell cI (N, .inl f))
      rw [← e]; exact this
    | k + 2, hk => simp at hk
  · match i, j, hi, hj with
    | 0, 0, _, _ => rfl
    | 1, 1, _, _ => rfl
    | 0, 1, hi, hj => cases hi; cases hj; exact hD.1 0 1 _ _ rfl rfl hpq
    | 1, 0, hi, hj => cases hi; cases hj; exact hD.1 1 0 _ _ rfl rfl hpq
    | i + 2, _, hi, _ => simp at hi
    | _, j + 2, _, hj => simp at hj
  · match k, hk with
    | 0, hk => exact hD.2 0 q hk
    | 1, hk => cases hk; exact (show A b from hD.2 1 (b, .inl (cI, N, .inl (va_cpy f g 0 0 N))) rfl)
    | k + 2, hk => simp at hk
theorem btw_1 {x lo hi : Int32} (h : x < lo) : nI 0 = bI (inR x lo hi) := by
  have : ¬ lo ≤ x := fun q => absurd h (Int32.not_lt.mpr q)
  unfold inR; rw [decide_eq_false this]; rfl
theorem btw_2 {x lo hi : Int32} (h : hi < x) : nI 0 = bI (inR x lo hi) := by
  have : ¬ x ≤ hi := fun q => absurd h (Int32.not_lt.mpr q)
  unfold inR; rw [decide_eq_false this, Bool.and_false]; rfl
theorem btw_3 {x lo hi : Int32} (h1 : ¬ x < lo) (h2 : ¬ hi < x) : nI 1 = bI (inR x lo hi) := by
  unfold inR; rw [decide_eq_true (Int32.not_lt.mp h1), decide_eq_true (Int32.not_lt.mp h2)]; rfl
theorem has_1 {n : Nat} {x : Int32} (h : x < 0) : nI 0 = bI (hasB n x) := by
  have : ¬ (0 : Int32) ≤ x := fun q => absurd h (Int32.not_lt.mpr q)
  unfold hasB; rw [decide_eq_false this]; rfl
theorem has_2 {n : Nat} {x : Int32} (h : nI n ≤ x) : nI 0 = bI (hasB n x) := by
  have : ¬ x < nI n := Int32.not_lt.mpr h
  unfold hasB; rw [decide_eq_false this, Bool.and_false]; rfl
theorem has_3 {n : Nat} {x : Int32} (h1 : ¬ x < 0) (h2 : ¬ nI n ≤ x) : nI 1 = bI (hasB n x) := by
  unfold hasB; rw [decide_eq_true (Int32.not_lt.mp h1), decide_eq_true (Int32.not_le.mp h2)]; rfl
def heldP (T : Nat → Nat → Nat) (b i q : Nat) : Bool := pfit (T b 2) (T b 3) q && !anyN i (fun w => liftT T w b && pfit (T w 2) (T w 3) q)
def heldM (n : Nat) (T : Nat → Nat → Nat) (b q : Nat) : Bool := holdT n T b (q / 6) (q % 6)
theorem heldP_0 (T : Nat → Nat → Nat) (b : Nat) : mk (pfit (T b 2) (T b 3)) = mk (heldP T b 0) := by
  apply mk_cong; intro i _; simp [heldP, anyN]
theorem heldP_t {T : Nat → Nat → Nat} {b i : Nat} (h : liftT T i b = true) : mk (heldP T b i) &&& (mk (pfit (T i 2) (T i 3)) ^^^ (-1)) = mk (heldP T b (i + 1)) := by
  rw [mk_andnot]; apply mk_cong; intro q _
  simp only [heldP, anyN, h, Bool.true_and]
  cases pfit (T b 2) (T b 3) q <;> cases anyN i (fun w => liftT T w b && pfit (T w 2) (T w 3) q) <;> cases pfit (T i 2) (T i 3) q <;> rfl
theorem heldP_f {T : Nat → Nat → Nat} {b i : Nat} (h : liftT T i b = false) : mk (heldP T b i) = mk (heldP T b (i + 1)) := by
  apply mk_cong; intro q _
  simp only [heldP, anyN, h, Bool.false_and, Bool.or_false]
theorem heldP_n (n : Nat) (T : Nat → Nat → Nat) (b : Nat) : mk (heldP T b n) = mk (heldM n T b) := rfl
def permM (n : Nat) (T : Nat → Nat → Nat) (q : Nat) : Bool := permT n T (q / 6) (q % 6)
theorem permM_t {T : Nat → Nat → Nat} {i : Nat} (h : T i 1 = 0) : mk (permM i T) ||| mk (pfit (T i 2) (T i 3)) = mk (permM (i + 1) T) := by
  rw [mk_or]; apply mk_cong; intro q _
  simp only [permM, permT, anyN, h]
  simp [fitT, pfit]
theorem permM_f {T : Nat → Nat → Nat} {i : Nat} (h : 0 < T i 1) : mk (permM i T) = mk (permM (i + 1) T) := by
  apply mk_cong; intro q _
  have : (T i 1 == 0) = false := by simp; omega
  simp only [permM, permT, anyN, this, Bool.false_and, Bool.or_false]
def sealM (i n : Nat) (T : Nat → Nat → Nat) (z q : Nat) : Bool := anyN i (fun b => (T b 1 == 1 && T b 4 == z) && holdT n T b (q / 6) (q % 6))
theorem sealM_t {i n z : Nat} {T : Nat → Nat → Nat} (h1 : T i 1 = 1) (h2 : T i 4 = z) : mk (sealM i n T z) ||| mk (heldM n T i) = mk (sealM (i + 1) n T z) := by
  rw [mk_or]; apply mk_cong; intro q _
  simp only [sealM, anyN, heldM, h1, h2]
  simp
theorem sealM_f1 {i n z : Nat} {T : Nat → Nat → Nat} (h1 : T i 1 ≠ 1) : mk (sealM i n T z) = mk (sealM (i + 1) n T z) := by
  apply mk_cong; intro q _
  have : (T i 1 == 1) = false := by simpa using h1
  simp only [sealM, anyN, this, Bool.false_and, Bool.or_false]
theorem sealM_f2 {i n z : Nat} {T : Nat → Nat → Nat} (h1 : T i 4 ≠ z) : mk (sealM i n T z) = mk (sealM (i + 1) n T z) := by
  apply mk_cong; intro q _
  have : (T i 4 == z) = false := by simpa using h1
  simp only [sealM, anyN, this, Bool.and_false, Bool.false_and, Bool.or_false]
def aboveM (n : Nat) (T : Nat → Nat → Nat) (z q : Nat) : Bool := permM n T q && !anyN n (fun b => (T b 1 == 1 && decide (z < T b 4)) && holdT n T b (q / 6) (q % 6))
theorem aboveM_9 {n : Nat} {T : Nat → Nat → Nat} (hW : WfT n T) : mk (permM n T) = mk (aboveM n T 9) := by
  apply mk_cong; intro q _
  have : anyN n (fun b => (T b 1 == 1 && decide (9 < T b 4)) && holdT n T b (q / 6) (q % 6)) = false := by
    rw [anyN_false]; intro i hi
    have := hW i hi
    rw [decide_eq_false (show ¬ 9 < T i 4 by omega)]; simp
  rw [aboveM, this]; simp
theorem aboveM_s {n z : Nat} {T : Nat → Nat → Nat} (h : 1 ≤ z) : mk (aboveM n T z) &&& (mk (sealM n n T z) ^^^ (-1)) = mk (aboveM n T (z - 1)) := by
  rw [mk_andnot]; apply mk_cong; intro q _
  have e : anyN n (fun b => (T b 1 == 1 && decide (z - 1 < T b 4)) && holdT n T b (q / 6) (q % 6)) = (anyN n (fun b => (T b 1 == 1 && decide (z < T b 4)) && holdT n T b (q / 6) (q % 6)) || sealM n n T z q) := by
    unfold sealM
    rw [Bool.eq_iff_iff, Bool.or_eq_true, anyN_true, anyN_true, anyN_true]
    constructor
    · rintro ⟨i, hi, h1⟩
      simp only [Bool.and_eq_true, decide_eq_true_eq, beq_iff_eq] at h1
      rcases Nat.lt_or_ge z (T i 4) with g | g
      · exact Or.inl ⟨i, hi, by simp [h1, g]⟩
      · exact Or.inr ⟨i, hi, by simp [h1, show T i 4 = z by omega]⟩
    · rintro (⟨i, hi, h1⟩ | ⟨i, hi, h1⟩) <;> simp only [Bool.and_eq_true, decide_eq_true_eq, beq_iff_eq] at h1
      · exact ⟨i, hi, by simp only [Bool.and_eq_true, decide_eq_true_eq, beq_iff_eq]; exact ⟨⟨h1.1.1, by omega⟩, h1.2⟩⟩
      · exact ⟨i, hi, by simp only [Bool.and_eq_true, decide_eq_true_eq, beq_iff_eq]; exact ⟨⟨h1.1.1, by omega⟩, h1.2⟩⟩
  unfold aboveM; rw [e]
  cases permM n T q <;> cases anyN n (fun b => (T b 1 == 1 && decide (z < T b 4)) && holdT n T b (q / 6) (q % 6)) <;> cases sealM n n T z q <;> rfl
theorem lst_le {n c d z : Nat} {T : Nat → Nat → Nat} (hz : z ≤ 9) : lstT n T c d ≤ z ↔ permT n T c d = true ∧ ∀ b, b < n → T b 1 = 1 → holdT n T b c d = true → T b 4 ≤ z := by
  unfold lstT
  cases hp : permT n T c d
  · simp; omega
  · simp only [if_true, maxN_le, true_and]
    constructor
    · intro h b hb h1 h2
      have := h b hb
      simpa [h1, h2] using this
    · intro h b hb
      by_cases h1 : T b 1 = 1
      · cases h2 : holdT n T b c d
        · simp
        · simpa [h1] using h b hb h1 h2
      · simp [h1]
theorem aboveM_lst {n z q : Nat} {T : Nat → Nat → Nat} (hz : z ≤ 9) : aboveM n T z q = decide (lstT n T (q / 6) (q % 6) ≤ z) := by
  rw [Bool.eq_iff_iff, decide_eq_true_iff, lst_le hz]
  unfold aboveM permM
  rw [Bool.and_eq_true, Bool.not_eq_true', anyN_false]
  constructor
  · rintro ⟨h1, h2⟩
    refine ⟨h1, fun b hb g1 g2 => ?_⟩
    have := h2 b hb
    simp only [g1, g2, Bool.and_true, beq_self_eq_true, Bool.true_and, decide_eq_false_iff_not] at this
    omega
  · rintro ⟨h1, h2⟩
    refine ⟨h1, fun b hb => ?_⟩
    cases g2 : holdT n T b (q / 6) (q % 6)
    · simp
    · by_cases g1 : T b 1 = 1
      · have := h2 b hb g1 g2
        simp [g1]; omega
      · simp [g1]
theorem perm_bit {n c d : Nat} {T : Nat → Nat → Nat} (hc : c < 5) (hd : d < 6) : permM n T (6 * c + d) = permT n T c d := by
  unfold permM
  rw [show (6 * c + d) / 6 = c by omega, show (6 * c + d) % 6 = d by omega]
theorem lst_none {n c d : Nat} {T : Nat → Nat → Nat} (hc : c < 5) (hd : d < 6) (h : mk (permM n T) &&& mk (pfit c d) = 0) : (if lstT n T c d = 10 then (-6 : Int32) else nI (lstT n T c d)) = -6 := by
  rw [mk_one hc hd, perm_bit hc hd] at h
  unfold lstT; rw [h]; simp
theorem lst_le9 {n c d : Nat} {T : Nat → Nat → Nat} (hW : WfT n T) (hc : c < 5) (hd : d < 6) (h : ¬ mk (permM n T) &&& mk (pfit c d) = 0) : lstT n T c d ≤ 9 := by
  rw [mk_one hc hd, perm_bit hc hd] at h
  rw [lst_le (Nat.le_refl 9)]
  refine ⟨by simpa using h, fun b hb _ _ => ?_⟩
  have := hW b hb; omega
theorem seal_bit {n c d z : Nat} {T : Nat → Nat → Nat} (hc : c < 5) (hd : d < 6) : sealM n n T z (6 * c + d) = true ↔ ∃ b, b < n ∧ T b 1 = 1 ∧ T b 4 = z ∧ holdT n T b c d = true := by
  unfold sealM
  rw [anyN_true, show (6 * c + d) / 6 = c by omega, show (6 * c + d) % 6 = d by omega]
  constructor
  · rintro ⟨b, hb, h⟩
    simp only [Bool.and_eq_true, beq_iff_eq] at h
    exact ⟨b, hb, h.1.1, h.1.2, h.2⟩
  · rintro ⟨b, hb, h1, h2, h3⟩
    exact ⟨b, hb, by simp [h1, h2, h3]⟩
theorem lst_dn {n c d z : Nat} {T : Nat → Nat → Nat} (hc : c < 5) (hd : d < 6) (hz : 1 ≤ z ∧ z ≤ 9) (hv : lstT n T c d ≤ z) (h : mk (sealM n n T z) &&& mk (pfit c d) = 0) : lstT n T c d ≤ z - 1 := by
  rw [mk_one hc hd] at h
  rw [lst_le (by omega)] at hv ⊢
  refine ⟨hv.1, fun b hb h1 h2 => ?_⟩
  have := hv.2 b hb h1 h2
  rcases Nat.lt_or_ge (T b 4) z with g | g
  · omega
  · rw [(seal_bit hc hd).mpr ⟨b, hb, h1, by omega, h2⟩] at h; cases h
theorem lst_at {n c d z : Nat} {T : Nat → Nat → Nat} (hc : c < 5) (hd : d < 6) (hz : 1 ≤ z) (hz9 : z ≤ 9) (hv : lstT n T c d ≤ z) (h : ¬ mk (sealM n n T z) &&& mk (pfit c d) = 0) : (if lstT n T c d = 10 then (-6 : Int32) else nI (lstT n T c d)) = nI z := by
  rw [mk_one hc hd] at h
  have h : sealM n n T z (6 * c + d) = true := by simpa using h
  obtain ⟨b, hb, h1, h2, h3⟩ := (seal_bit hc hd).mp h
  have : lstT n T c d = z := by
    rcases Nat.lt_or_ge (lstT n T c d) z with g | g
    · have g2 : lstT n T c d ≤ z - 1 := by omega
      rw [lst_le (by omega)] at g2
      have := g2.2 b hb h1 h3
      omega
    · omega
  rw [this, if_neg (by omega)]
theorem lst_at0 {n c d z : Nat} {T : Nat → Nat → Nat} (hz : z < 1) (hv : lstT n T c d ≤ z) : (if lstT n T c d = 10 then (-6 : Int32) else nI (lstT n T c d)) = nI 0 := by
  rw [show lstT n T c d = 0 by omega, if_neg (by omega)]
def meetT (T : Nat → Nat → Nat) (i j : Nat) : Bool := (T i 2 == T j 2 || T i 2 == 5 || T j 2 == 5) && (T i 3 == T j 3 || T i 3 == 6 || T j 3 == 6)
def oddT (T : Nat → Nat → Nat) (i j : Nat) : Bool := ((T i 1 == 1) != (T j 1 == 1)) && meetT T i j
def oprT (n : Nat) (T : Nat → Nat → Nat) : Nat := sumN n (fun i => if T i 1 = 1 then cntN n (fun j => oddT T i j) else 0)
theorem oddT_z {T : Nat → Nat → Nat} {i j : Nat} (h : T i 1 = 1 ↔ T j 1 = 1) : nI 0 = bI (oddT T i j) := by
  have : (T i 1 == 1) = (T j 1 == 1) := by rw [Bool.eq_iff_iff]; simpa using h
  unfold oddT; rw [this]; simp [bI, nI_0]
theorem oddT_n {T : Nat → Nat → Nat} {i j : Nat} (h : meetT T i j = false) : nI 0 = bI (oddT T i j) := by
  unfold oddT; rw [h]; simp [bI, nI_0]
theorem oddT_o {T : Nat → Nat → Nat} {i j : Nat} (h : ¬ (T i 1 = 1 ↔ T j 1 = 1)) (h2 : meetT T i j = true) : nI 1 = bI (oddT T i j) := by
  have : ((T i 1 == 1) != (T j 1 == 1)) = true := by
    simp only [bne_iff_ne, ne_eq]
    intro e; apply h
    rw [Bool.eq_iff_iff] at e; simpa using e
  unfold oddT; rw [this, h2]; rfl
theorem meet_iff {T : Nat → Nat → Nat} {i j : Nat} (hi : T i 2 ≤ 5 ∧ T i 3 ≤ 6) (hj : T j 2 ≤ 5 ∧ T j 3 ≤ 6) : meetT T i j = true ↔ ∃ q, q < 30 ∧ (pfit (T i 2) (T i 3) q && pfit (T j 2) (T j 3) q) = true := by
  unfold meetT pfit
  simp only [Bool.and_eq_true, Bool.or_eq_true, beq_iff_eq]
  constructor
  · rintro ⟨h1, h2⟩
    refine ⟨6 * (if T i 2 = 5 then (if T j 2 = 5 then 0 else T j 2) else T i 2) + (if T i 3 = 6 then (if T j 3 = 6 then 0 else T j 3) else T i 3), ?_, ?_⟩
    · split <;> split <;> (try split) <;> (try split) <;> omega
    · split <;> split <;> (try split) <;> (try split) <;> omega
  · rintro ⟨q, _, ⟨h1, h2⟩, h3, h4⟩
    omega
theorem meetT_t {T : Nat → Nat → Nat} {i j : Nat} (hi : T i 0 < 5 ∧ T i 1 < 3 ∧ T i 2 ≤ 5 ∧ T i 3 ≤ 6 ∧ 1 ≤ T i 4 ∧ T i 4 ≤ 9) (hj : T j 0 < 5 ∧ T j 1 < 3 ∧ T j 2 ≤ 5 ∧ T j 3 ≤ 6 ∧ 1 ≤ T j 4 ∧ T j 4 ≤ 9) (h : ¬ mk (pfit (T i 2) (T i 3)) &&& mk (pfit (T j 2) (T j 3)) = 0) : meetT T i j = true := by
  rw [mk_and, mk_zero] at h
  rw [meet_iff ⟨hi.2.2.1, hi.2.2.2.1⟩ ⟨hj.2.2.1, hj.2.2.2.1⟩]
  apply Classical.byContradiction
  intro g; apply h; intro q hq
  cases e : (pfit (T i 2) (T i 3) q && pfit (T j 2) (T j 3) q)
  · rfl
  · exact absurd ⟨q, hq, e⟩ g
theorem meetT_f {T : Nat → Nat → Nat} {i j : Nat} (hi : T i 0 < 5 ∧ T i 1 < 3 ∧ T i 2 ≤ 5 ∧ T i 3 ≤ 6 ∧ 1 ≤ T i 4 ∧ T i 4 ≤ 9) (hj : T j 0 < 5 ∧ T j 1 < 3 ∧ T j 2 ≤ 5 ∧ T j 3 ≤ 6 ∧ 1 ≤ T j 4 ∧ T j 4 ≤ 9) (h : mk (pfit (T i 2) (T i 3)) &&& mk (pfit (T j 2) (T j 3)) = 0) : meetT T i j = false := by
  rw [mk_and, mk_zero] at h
  cases e : meetT T i j
  · rfl
  · obtain ⟨q, hq, g⟩ := (meet_iff ⟨hi.2.2.1, hi.2.2.2.1⟩ ⟨hj.2.2.1, hj.2.2.2.1⟩).mp e
    rw [h q hq] at g; cases g
theorem lift_o {T : Nat → Nat → Nat} {w b : Nat} (h1 : T w 1 = 2) (h2 : T w 0 ≤ T b 0) (h3 : T b 4 ≤ T w 4) : nI 1 = bI (liftT T w b) := by
  unfold liftT; simp [h1, h2, h3, bI]; rfl
theorem lift_1 {T : Nat → Nat → Nat} {w b : Nat} (h1 : T w 1 ≠ 2) : nI 0 = bI (liftT T w b) := by
  unfold liftT; simp [h1, bI, nI_0]
theorem lift_2 {T : Nat → Nat → Nat} {w b : Nat} (h1 : T b 0 < T w 0) : nI 0 = bI (liftT T w b) := by
  unfold liftT; simp [Nat.not_le.mpr h1, bI, nI_0]
theorem lift_3 {T : Nat → Nat → Nat} {w b : Nat} (h1 : T w 4 < T b 4) : nI 0 = bI (liftT T w b) := by
  unfold liftT; simp [Nat.not_le.mpr h1, bI, nI_0]
