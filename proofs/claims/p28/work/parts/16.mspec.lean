/-! The reference: its numbers V (0 rules, 1 members, 2 deeds done, 3.. refusals, 9.. rules, 129.. members), and what it finds. -/
def vI (V : Nat → Nat) : Nat → Int32 := fun k => nI (V k)
def updN (V : Nat → Nat) (k x : Nat) : Nat → Nat := fun j => if j = k then x else V j
theorem upd_vI (V : Nat → Nat) (k x : Nat) : upd (vI V) k (nI x) = vI (updN V k x) := by
  funext j; unfold upd vI updN; split <;> rfl
abbrev modW (kA : Nat → ClassId) (a : Nat → Nat) (V : Nat → Nat) (hs sl sv pd sg : Nat → Int32) (kt ln td : Nat) : va_W := [((a 0), .inr (5, [.ref (a 1), .ref (a 2), .int (nI kt), .ref (a 3), .ref (a 4), .ref (a 5), .int (nI ln), .ref (a 6), .int (nI td)])), ((a 1), .inl (kA 0, 169, .inl (vI V))), ((a 2), .inl (kA 0, 1014, .inl hs)), ((a 3), .inl (kA 0, 338, .inl sl)), ((a 4), .inl (kA 2, 2, .inl sv)), ((a 5), .inl (kA 0, 60, .inl pd)), ((a 6), .inl (kA 0, 5, .inl sg))]
theorem isr {n : Nat} {x : Int32} (hn : n < 2 ^ 31) : inR x (nI 0) (nI n - nI 1) = hasB n x := by
  unfold inR hasB
  rw [nI_0]
  congr 1
  rw [decide_eq_decide, Int32.le_iff_toInt_le, Int32.lt_iff_toInt_lt, nI_toInt hn]
  rcases Nat.eq_zero_or_pos n with z | z
  · subst z
    have : (nI 0 - nI 1 : Int32).toInt = -1 := by decide
    rw [this]; omega
  · rw [pk_sub z, nI_toInt (by omega)]; omega
def iniF (ly : Int32) (se q : Nat) : Nat := if nI q = ly then se else 0
def lf2 (T : Nat → Nat → Nat) (c d : Nat) (bu ly : Int32) (se r q : Nat) : Nat := max (iniF ly se q) (maxN r (fun j => if (!decide (nI j = bu) && (T j 1 == 2 && (T j 0 == q && fitT T j c d))) = true then T j 4 else 0))
def pmx (F : Nat → Nat) : Nat → Nat
  | 0 => F 0
  | q + 1 => max (pmx F q) (F (q + 1))
def stM (n : Nat) (T : Nat → Nat → Nat) (c d : Nat) (bu ly : Int32) (se q : Nat) : Nat := pmx (lf2 T c d bu ly se n) q
def pmM (n : Nat) (T : Nat → Nat → Nat) (c d : Nat) (bu : Int32) : Bool := anyN n (fun j => !decide (nI j = bu) && (T j 1 == 0 && fitT T j c d))
def hdM (n : Nat) (T : Nat → Nat → Nat) (c d : Nat) (bu ly : Int32) (se r : Nat) : Bool := !decide (nI r = bu) && (T r 1 == 1 && (fitT T r c d && decide (stM n T c d bu ly se (T r 0) < T r 4)))
def lstM (n : Nat) (T : Nat → Nat → Nat) (c d : Nat) (bu ly : Int32) (se : Nat) : Nat := if pmM n T c d bu = true then maxN n (fun r => if hdM n T c d bu ly se r = true then T r 4 else 0) else 10
theorem fillS {g : Nat → Int32} {F : Nat → Nat} {l : Nat} {x : Int32} (h : ∀ q, q < l → g q = nI (F q)) (hx : x = nI (F l)) : ∀ q, q < l + 1 → upd g l x q = nI (F q) := by
  intro q hq
  rcases Nat.lt_or_ge q l with c | c
  · rw [upd_n (by omega)]; exact h q c
  · have : q = l := by omega
    subst this; rw [upd_s]; exact hx
theorem lf2_0 {T : Nat → Nat → Nat} {c d : Nat} {bu ly : Int32} {se q : Nat} : lf2 T c d bu ly se 0 q = iniF ly se q := by unfold lf2 maxN; rw [Nat.max_zero]
theorem lf2_t {T : Nat → Nat → Nat} {c d : Nat} {bu ly : Int32} {se r q : Nat} (h1 : ¬ nI r = bu) (h2 : T r 1 = 2) (h3 : fitT T r c d = true) : lf2 T c d bu ly se (r + 1) q = if q = T r 0 then max (lf2 T c d bu ly se r q) (T r 4) else lf2 T c d bu ly se r q := by
  unfold lf2
  rw [maxN_succ]
  by_cases e : q = T r 0
  · rw [if_pos e]; subst e
    simp [h1, h2, h3, Nat.max_assoc]
  · rw [if_neg e]
    have : (T r 0 == q) = false := by rw [beq_eq_false_iff_ne]; exact fun z => e z.symm
    simp [this]
theorem lf2_f {T : Nat → Nat → Nat} {c d : Nat} {bu ly : Int32} {se r q : Nat} (h : nI r = bu ∨ T r 1 ≠ 2 ∨ fitT T r c d = false) : lf2 T c d bu ly se (r + 1) q = lf2 T c d bu ly se r q := by
  unfold lf2
  rw [maxN_succ]
  have : (!decide (nI r = bu) && (T r 1 == 2 && (T r 0 == q && fitT T r c d))) = false := by
    rcases h with h | h | h
    · simp [h]
    · simp [h]
    · simp [h]
  rw [this]; simp
theorem lf2_put {T : Nat → Nat → Nat} {c d : Nat} {bu ly : Int32} {se r x : Nat} {g : Nat → Int32} (h1 : ¬ nI r = bu) (h2 : T r 1 = 2) (h3 : fitT T r c d = true) (hg : ∀ q, q < 5 → g q = nI (lf2 T c d bu ly se r q)) (hx : x = max (lf2 T c d bu ly se r (T r 0)) (T r 4)) : ∀ q, q < 5 → upd g (T r 0) (nI x) q = nI (lf2 T c d bu ly se (r + 1) q) := by
  intro q hq
  rw [lf2_t h1 h2 h3]
  by_cases e : q = T r 0
  · rw [if_pos e, e, upd_s, hx]
  · rw [if_neg e, upd_n e]; exact hg q hq
theorem pmx_put {F : Nat → Nat} {g : Nat → Int32} {l x : Nat} (hl : 1 ≤ l) (hg : ∀ q, q < 5 → g q = nI (if q < l then pmx F q else F q)) (hx : x = max (pmx F (l - 1)) (F l)) : ∀ q, q < 5 → upd g l (nI x) q = nI (if q < l + 1 then pmx F q else F q) := by
  intro q hq
  by_cases e : q = l
  · subst e
    rw [upd_s, if_pos (by omega), hx]
    obtain ⟨l', rfl⟩ : ∃ l', q = l' + 1 := ⟨q - 1, by omega⟩
    rfl
  · rw [upd_n e, hg q hq]
    by_cases c : q < l
    · rw [if_pos c, if_pos (by omega)]
    · rw [if_neg c, if_neg (by omega)]
theorem lf2_le {n : Nat} {T : Nat → Nat → Nat} {c d : Nat} {bu ly : Int32} {se r q : Nat} (hW : WfT n T) (hr : r ≤ n) (hs : se ≤ 9) : lf2 T c d bu ly se r q ≤ 9 := by
  unfold lf2; rw [Nat.max_le]
  constructor
  · unfold iniF; split <;> omega
  · exact (maxIf_le (p := fun j => (!decide (nI j = bu) && (T j 1 == 2 && (T j 0 == q && fitT T j c d)))) (f := fun j => T j 4)).mpr (fun i hi _ => (hW i (by omega)).2.2.2.2.2)
theorem pmx_le {F : Nat → Nat} {k : Nat} (h : ∀ q, F q ≤ k) : ∀ q, pmx F q ≤ k
  | 0 => h 0
  | q + 1 => by rw [pmx, Nat.max_le]; exact ⟨pmx_le h q, h _⟩
theorem an_1 {n : Nat} {p : Nat → Bool} {v : Bool} (hv : v = anyN n p) (h : v = true) : true = anyN (n + 1) p := by rw [anyN, ← hv, h]; rfl
theorem an_2 {n : Nat} {p : Nat → Bool} (h : p n = true) : true = anyN (n + 1) p := by rw [anyN, h, Bool.or_true]
theorem an_3 {n : Nat} {p : Nat → Bool} {v : Bool} (hv : v = anyN n p) (h : v = false) (h2 : p n = false) : false = anyN (n + 1) p := by rw [anyN, ← hv, h, h2]; rfl
theorem mx_t {n : Nat} {p : Nat → Bool} {f : Nat → Nat} {v : Nat} (hv : v = maxN n (fun j => if p j = true then f j else 0)) (hp : p n = true) : max v (f n) = maxN (n + 1) (fun j => if p j = true then f j else 0) := by
  rw [maxN_succ, if_pos hp, hv]
theorem mx_f {n : Nat} {p : Nat → Bool} {f : Nat → Nat} {v : Nat} (hv : v = maxN n (fun j => if p j = true then f j else 0)) (hp : p n = false) : v = maxN (n + 1) (fun j => if p j = true then f j else 0) := by
  rw [maxN_succ, if_neg (by rw [hp]; decide), hv, Nat.max_zero]
theorem or3_t {x y k : Nat} (h : x = y ∨ x = k ∨ y = k) : nI 1 = bI (x == y || x == k || y == k) := by
  have : (x == y || x == k || y == k) = true := by simp only [Bool.or_eq_true, beq_iff_eq]; omega
  rw [this]; rfl
theorem or3_f {x y k : Nat} (h : ¬ (x = y ∨ x = k ∨ y = k)) : nI 0 = bI (x == y || x == k || y == k) := by
  have : (x == y || x == k || y == k) = false := by rw [← Bool.not_eq_true]; simp only [Bool.or_eq_true, beq_iff_eq]; omega
  rw [this]; rfl
theorem od_t {T : Nat → Nat → Nat} {i j : Nat} (h1 : (T i 2 == T j 2 || T i 2 == 5 || T j 2 == 5) = true) (h2 : (T i 3 == T j 3 || T i 3 == 6 || T j 3 == 6) = true) (h3 : ¬ (T i 1 = 1 ↔ T j 1 = 1)) : nI 1 = bI (oddT T i j) := oddT_o h3 (by unfold meetT; rw [h1, h2]; rfl)
theorem od_f1 {T : Nat → Nat → Nat} {i j : Nat} (h1 : (T i 2 == T j 2 || T i 2 == 5 || T j 2 == 5) = false) : nI 0 = bI (oddT T i j) := oddT_n (by unfold meetT; rw [h1]; rfl)
theorem od_f2 {T : Nat → Nat → Nat} {i j : Nat} (h2 : (T i 3 == T j 3 || T i 3 == 6 || T j 3 == 6) = false) : nI 0 = bI (oddT T i j) := oddT_n (by unfold meetT; rw [h2, Bool.and_false])
theorem ft_t {T : Nat → Nat → Nat} {j c d : Nat} (h : (T j 2 = c ∨ T j 2 = 5) ∧ (T j 3 = d ∨ T j 3 = 6)) : nI 1 = bI (fitT T j c d) := by
  have : fitT T j c d = true := by unfold fitT; simp only [Bool.and_eq_true, Bool.or_eq_true, beq_iff_eq]; exact h
  rw [this]; rfl
theorem ft_f {T : Nat → Nat → Nat} {j c d : Nat} (h : ¬ ((T j 2 = c ∨ T j 2 = 5) ∧ (T j 3 = d ∨ T j 3 = 6))) : nI 0 = bI (fitT T j c d) := by
  have : fitT T j c d = false := by rw [← Bool.not_eq_true]; unfold fitT; simp only [Bool.and_eq_true, Bool.or_eq_true, beq_iff_eq]; exact h
  rw [this]; rfl
theorem hd_t {n : Nat} {T : Nat → Nat → Nat} {c d : Nat} {bu ly : Int32} {se r : Nat} (h1 : ¬ nI r = bu) (h2 : T r 1 = 1) (h3 : fitT T r c d = true) (h4 : stM n T c d bu ly se (T r 0) < T r 4) : hdM n T c d bu ly se r = true := by
  unfold hdM; simp [h1, h2, h3, h4]
theorem hd_f {n : Nat} {T : Nat → Nat → Nat} {c d : Nat} {bu ly : Int32} {se r : Nat} (h : nI r = bu ∨ T r 1 ≠ 1 ∨ fitT T r c d = false ∨ T r 4 ≤ stM n T c d bu ly se (T r 0)) : hdM n T c d bu ly se r = false := by
  unfold hdM
  rcases h with h | h | h | h
  · simp [h]
  · simp [h]
  · simp [h]
  · simp [Nat.not_lt.mpr h]
theorem lstM_le {n : Nat} {T : Nat → Nat → Nat} {c d : Nat} {bu ly : Int32} {se : Nat} (hW : WfT n T) : lstM n T c d bu ly se ≤ 10 := by
  unfold lstM; split
  · exact Nat.le_trans ((maxIf_le (p := fun r => hdM n T c d bu ly se r) (f := fun r => T r 4)).mpr (fun i hi _ => (hW i hi).2.2.2.2.2)) (by omega)
  · omega
def trpM (n : Nat) (T : Nat → Nat → Nat) (bu ly : Int32) (se : Nat) : Nat := sumN 30 (fun q => 10 - lstM n T (q / 6) (q % 6) bu ly se)
theorem adV (V : Nat → Nat) (l k c d s : Nat) : updN (updN (updN (updN (updN (updN V 0 (V 0 + 1)) (9 + 5 * V 0 + 0) l) (9 + 5 * V 0 + 1) k) (9 + 5 * V 0 + 2) c) (9 + 5 * V 0 + 3) d) (9 + 5 * V 0 + 4) s = addV V l k c d s := by
  funext q; unfold updN addV
  by_cases h0 : q = 0
  · subst h0; rw [if_neg (by omega), if_neg (by omega), if_neg (by omega), if_neg (by omega), if_neg (by omega), if_pos rfl, if_pos rfl]
  · rw [if_neg h0]
    by_cases h1 : q = 9 + 5 * V 0
    · subst h1; simp
    · by_cases h2 : q = 9 + 5 * V 0 + 1
      · subst h2; simp
      · by_cases h3 : q = 9 + 5 * V 0 + 2
        · subst h3; simp
        · by_cases h4 : q = 9 + 5 * V 0 + 3
          · subst h4; simp
          · by_cases h5 : q = 9 + 5 * V 0 + 4
            · subst h5; simp
            · simp [h0, h1, h2, h3, h4, h5]
def shV (V : Nat → Nat) (i k : Nat) : Nat → Nat := fun q => if q = 0 then V 0 - 1 else if 9 + 5 * i ≤ q ∧ q < k then V (q + 5) else V q
def strV (V : Nat → Nat) (i : Nat) : Nat → Nat := fun q => if q = 0 then V 0 - 1 else if 9 + 5 * (V 0 - 1) ≤ q ∧ q < 9 + 5 * (V 0 - 1) + 5 then 0 else if 9 + 5 * i ≤ q ∧ q < 9 + 5 * (V 0 - 1) then V (q + 5) else V q
def zrV (V : Nat → Nat) (i e : Nat) : Nat → Nat := fun q => if q = 0 then V 0 - 1 else if 9 + 5 * (V 0 - 1) ≤ q ∧ q < 9 + 5 * (V 0 - 1) + e then 0 else if 9 + 5 * i ≤ q ∧ q < 9 + 5 * (V 0 - 1) then V (q + 5) else V q
theorem shV_0 (V : Nat → Nat) (i : Nat) : updN V 0 (V 0 - 1) = shV V i (9 + 5 * i) := by
  funext q; unfold updN shV
  by_cases h : q = 0
  · rw [if_pos h, if_pos h]
  · rw [if_neg h, if_neg h, if_neg (by omega)]
theorem shV_s (V : Nat → Nat) {i k : Nat} (h : 9 + 5 * i ≤ k) : updN (shV V i k) k (V (k + 5)) = shV V i (k + 1) := by
  funext q; unfold updN shV
  by_cases h1 : q = k
  · subst h1; rw [if_pos rfl, if_neg (by omega), if_pos (by omega)]
  · rw [if_neg h1]
    by_cases h2 : q = 0
    · rw [if_pos h2, if_pos h2]
    · rw [if_neg h2, if_neg h2]
      by_cases h3 : 9 + 5 * i ≤ q ∧ q < k
      · rw [if_pos h3, if_pos (by omega)]
      · rw [if_neg h3, if_neg (by omega)]
theorem shV_hi (V : Nat → Nat) {i k : Nat} (h : 9 + 5 * i ≤ k) : shV V i k (k + 5) = V (k + 5) := by
  unfold shV; rw [if_neg (by omega), if_neg (by omega)]
theorem shV_e (V : Nat → Nat) {i k : Nat} (h : k = 9 + 5 * (V 0 - 1)) : shV V i k = zrV V i 0 := by
  subst h
  funext q; unfold zrV shV
  by_cases h2 : q = 0
  · rw [if_pos h2, if_pos h2]
  · rw [if_neg h2, if_neg h2]
    by_cases h3 : 9 + 5 * i ≤ q ∧ q < 9 + 5 * (V 0 - 1)
    · rw [if_pos h3, if_neg (by omega)]
    · rw [if_neg h3, if_neg (by omega)]
theorem zrV_s (V : Nat → Nat) {i e : Nat} (hi : i < V 0) : updN (zrV V i e) (9 + 5 * (V 0 - 1) + e) 0 = zrV V i (e + 1) := by
  funext q; unfold updN zrV
  by_cases h1 : q = 9 + 5 * (V 0 - 1) + e
  · rw [if_pos h1, if_neg (by omega), if_pos (by omega)]
  · rw [if_neg h1]
    by_cases h2 : q = 0
    · rw [if_pos h2, if_pos h2]
    · rw [if_neg h2, if_neg h2]
      by_cases h3 : 9 + 5 * (V 0 - 1) ≤ q ∧ q < 9 + 5 * (V 0 - 1) + e
      · rw [if_pos h3, if_pos (by omega)]
      · rw [if_neg h3, if_neg (show ¬ (9 + 5 * (V 0 - 1) ≤ q ∧ q < 9 + 5 * (V 0 - 1) + (e + 1)) by omega)]
theorem shV_0v (V : Nat → Nat) {i k : Nat} : shV V i k 0 = V 0 - 1 := rfl
theorem zrV_0v (V : Nat → Nat) {i e : Nat} : zrV V i e 0 = V 0 - 1 := rfl
def pushH (H : Nat → Nat → Nat) (kt : Nat) (V : Nat → Nat) : Nat → Nat → Nat := fun i => if kt = 6 then (if i = 5 then V else H (i + 1)) else if i = kt then V else H i
def pushN (kt : Nat) : Nat := if kt = 6 then 6 else kt + 1
def relH (hs : Nat → Int32) (kt : Nat) (H : Nat → Nat → Nat) : Prop := ∀ i, i < kt → ∀ k, k < 169 → hs (169 * i + k) = nI (H i k)
def shH (hs : Nat → Int32) (e : Nat) : Nat → Int32 := fun q => if q < e then hs (q + 169) else hs q
def cpH (h1 : Nat → Int32) (k1 : Nat) (V : Nat → Nat) (e : Nat) : Nat → Int32 := fun q => if 169 * k1 ≤ q ∧ q < 169 * k1 + e then nI (V (q - 169 * k1)) else h1 q
theorem shH_0 (hs : Nat → Int32) : shH hs 0 = hs := by funext q; unfold shH; rw [if_neg (by omega)]
theorem shH_s (hs : Nat → Int32) (e : Nat) : upd (shH hs e) e (hs (e + 169)) = shH hs (e + 1) := by
  funext q; unfold upd shH
  by_cases h : q = e
  · subst h; rw [if_pos rfl, if_pos (by omega)]
  · rw [if_neg h]
    by_cases h2 : q < e
    · rw [if_pos h2, if_pos (by omega)]
    · rw [if_neg h2, if_neg (by omega)]
theorem shH_hi (hs : Nat → Int32) (e : Nat) : shH hs e (e + 169) = hs (e + 169) := by unfold shH; rw [if_neg (by omega)]
theorem cpH_0 (h1 : Nat → Int32) (k1 : Nat) (V : Nat → Nat) : cpH h1 k1 V 0 = h1 := by funext q; unfold cpH; rw [if_neg (by omega)]
theorem cpH_s (h1 : Nat → Int32) (k1 : Nat) (V : Nat → Nat) (e : Nat) : upd (cpH h1 k1 V e) (169 * k1 + e) (nI (V e)) = cpH h1 k1 V (e + 1) := by
  funext q; unfold upd cpH
  by_cases h : q = 169 * k1 + e
  · subst h; rw [if_pos rfl, if_pos (by omega), Nat.add_sub_cancel_left]
  · rw [if_neg h]
    by_cases h2 : 169 * k1 ≤ q ∧ q < 169 * k1 + e
    · rw [if_pos h2, if_pos (by omega)]
    · rw [if_neg h2, if_neg (by omega)]
theorem relH_sh {hs : Nat → Int32} {H : Nat → Nat → Nat} (h : relH hs 6 H) : relH (shH hs 845) 5 (fun i => H (i + 1)) := by
  intro i hi k hk
  unfold shH; rw [if_pos (by omega), show 169 * i + k + 169 = 169 * (i + 1) + k by omega]
  exact h (i + 1) (by omega) k hk
theorem relH_cp {h1 : Nat → Int32} {k1 : Nat} {H : Nat → Nat → Nat} {V : Nat → Nat} (h : relH h1 k1 H) : relH (cpH h1 k1 V 169) (k1 + 1) (fun i => if i = k1 then V else H i) := by
  intro i hi k hk
  unfold cpH
  by_cases e : i = k1
  · subst e; rw [if_pos (by omega), Nat.add_sub_cancel_left]; show nI (V k) = nI ((if i = i then V else H i) k); rw [if_pos rfl]
  · rw [if_neg (by omega)]; show h1 (169 * i + k) = nI ((if i = k1 then V else H i) k); rw [if_neg e]; exact h i (by omega) k hk
def idM (n : Nat) (T : Nat → Nat → Nat) (i : Nat) : Bool := !anyN 30 (fun q => !decide (lstM n T (q / 6) (q % 6) (-6) (-6) 0 = lstM n T (q / 6) (q % 6) (nI i) (-6) 0))
theorem idM_e {n : Nat} {T : Nat → Nat → Nat} {i k : Nat} {v : Bool} (hv : (!v) = anyN k (fun q => !decide (lstM n T (q / 6) (q % 6) (-6) (-6) 0 = lstM n T (q / 6) (q % 6) (nI i) (-6) 0))) (h : 30 ≤ k ∧ k ≤ 30 ∨ (v = false ∧ k ≤ 30)) : v = idM n T i := by
  unfold idM
  rcases h with h | h
  · rw [show k = 30 by omega] at hv; rw [← hv, Bool.not_not]
  · rw [h.1] at hv ⊢
    obtain ⟨q, hq, e⟩ := anyN_true.mp hv.symm
    rw [anyN_true.mpr ⟨q, by omega, e⟩]; rfl
theorem push_6 {hs : Nat → Int32} {kt : Nat} {H : Nat → Nat → Nat} {V : Nat → Nat} (h : relH hs kt H) (e : kt = 6) : relH (cpH (shH hs 845) 5 V 169) (5 + 1) (pushH H kt V) := by
  subst e
  have := relH_cp (V := V) (relH_sh h)
  intro i hi k hk
  rw [this i hi k hk]
  unfold pushH
  rw [if_pos rfl]
theorem push_n {hs : Nat → Int32} {kt : Nat} {H : Nat → Nat → Nat} {V : Nat → Nat} (h : relH hs kt H) (e : kt ≠ 6) : relH (cpH hs kt V 169) (kt + 1) (pushH H kt V) := by
  have := relH_cp (V := V) h
  intro i hi k hk
  rw [this i hi k hk]
  unfold pushH
  rw [if_neg e]
theorem pm_t {T : Nat → Nat → Nat} {r c d : Nat} {bu : Int32} (h1 : ¬ nI r = bu) (h2 : T r 1 = 0) (h3 : fitT T r c d = true) : (!decide (nI r = bu) && (T r 1 == 0 && fitT T r c d)) = true := by simp [h1, h2, h3]
theorem pm_f1 {T : Nat → Nat → Nat} {r c d : Nat} {bu : Int32} (h1 : nI r = bu) : (!decide (nI r = bu) && (T r 1 == 0 && fitT T r c d)) = false := by simp [h1]
theorem pm_f2 {T : Nat → Nat → Nat} {r c d : Nat} {bu : Int32} (h2 : 0 < T r 1) : (!decide (nI r = bu) && (T r 1 == 0 && fitT T r c d)) = false := by
  have : (T r 1 == 0) = false := by rw [beq_eq_false_iff_ne]; omega
  simp [this]
theorem pm_f3 {T : Nat → Nat → Nat} {r c d : Nat} {bu : Int32} (h3 : fitT T r c d = false) : (!decide (nI r = bu) && (T r 1 == 0 && fitT T r c d)) = false := by simp [h3]
