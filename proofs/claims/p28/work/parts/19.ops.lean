/-! What each call answers, and what is so behind it: numbers V, pad (m, P), history (kt, H), slots (B, L). -/
abbrev Sig : Type := (Nat → Nat) × Nat × (Nat → Nat) × Nat × (Nat → Nat → Nat) × (Nat → Bool) × (Nat → Nat → Nat)
def toN (x : Int32) : Nat := x.toNatClampNeg
theorem toN_nI {n : Nat} (h : n < 2 ^ 31) : toN (nI n) = n := nI_clamp h
def InvV (V : Nat → Nat) : Prop := V 0 ≤ 24 ∧ WfT (V 0) (TV V) ∧ V 1 ≤ 10 ∧ ∀ j, j < V 1 → V (129 + 4 * j) < 5 ∧ V (129 + 4 * j + 1) < 10
def InvS : Sig → Prop
  | (V, m, P, kt, H, B, L) => InvV V ∧ m ≤ 60 ∧ wfP m P ∧ kt ≤ 6 ∧ (∀ i, i < kt → InvV (H i)) ∧ ∀ i, i < 2 → B i = true → InvV (L i)
def relS (sv sl : Nat → Int32) (B : Nat → Bool) (L : Nat → Nat → Nat) : Prop := ∀ i, i < 2 → sv i = bI (B i) ∧ (B i = true → ∀ k, k < 169 → sl (169 * i + k) = nI (L i k))
/-- the reference holds it -/
def ModR (kA : Nat → ClassId) (a : Nat → Nat) : Sig → va_W → Prop
  | (V, m, P, kt, H, B, L), u => ∃ (hs sl sv pd sg : Nat → Int32) (td : Nat), u = modW kA a V hs sl sv pd sg kt m td ∧ relH hs kt H ∧ relP pd m P ∧ relS sv sl B L
theorem retS {kA : Nat → ClassId} {a : Nat → Nat} {op : Int32 × Sig} {r : Int32} {S2 : Sig} {u : va_W} (E : op = (r, S2)) (h : ModR kA a S2 u) : r = op.1 ∧ ModR kA a op.2 u := by
  subst E; exact ⟨rfl, h⟩
def fstB : Nat → (Nat → Bool) → Nat
  | 0, _ => 0
  | n + 1, p => if fstB n p < n then fstB n p else if p n = true then n else n + 1
theorem fstB_le (p : Nat → Bool) : ∀ n, fstB n p ≤ n
  | 0 => Nat.le_refl 0
  | n + 1 => by
    have := fstB_le p n
    rw [fstB]; split
    · omega
    · split <;> omega
theorem fstB_none {p : Nat → Bool} : ∀ {n : Nat}, (∀ j, j < n → p j = false) → fstB n p = n
  | 0, _ => rfl
  | n + 1, h => by
    rw [fstB, fstB_none (fun j hj => h j (by omega)), if_neg (Nat.lt_irrefl n), if_neg (by rw [h n (by omega)]; decide)]
theorem fstB_at {p : Nat → Bool} {i : Nat} (hp : p i = true) (hj : ∀ j, j < i → p j = false) : ∀ {n : Nat}, i < n → fstB n p = i
  | 0, h => absurd h (Nat.not_lt_zero i)
  | n + 1, h => by
    rcases Nat.lt_or_ge i n with c | c
    · rw [fstB, fstB_at hp hj c, if_pos c]
    · have e : i = n := by omega
      subst e
      rw [fstB, fstB_none hj, if_neg (Nat.lt_irrefl i), if_pos hp]
theorem fstB_spec (p : Nat → Bool) : ∀ n, (fstB n p < n → p (fstB n p) = true) ∧ ∀ j, j < fstB n p → p j = false
  | 0 => ⟨fun h => absurd h (Nat.not_lt_zero _), fun j h => absurd h (Nat.not_lt_zero j)⟩
  | n + 1 => by
    obtain ⟨h1, h2⟩ := fstB_spec p n
    rw [fstB]
    by_cases c : fstB n p < n
    · rw [if_pos c]; exact ⟨fun _ => h1 c, h2⟩
    · have e := fstB_le p n
      have e2 : fstB n p = n := by omega
      rw [if_neg c]
      by_cases d : p n = true
      · rw [if_pos d]; exact ⟨fun _ => d, fun j hj => h2 j (by omega)⟩
      · rw [if_neg d]
        refine ⟨fun h => absurd h (Nat.lt_irrefl _), fun j hj => ?_⟩
        rcases Nat.lt_or_ge j n with x | x
        · exact h2 j (by omega)
        · rw [show j = n by omega]; simpa using d
def idB (V : Nat → Nat) (i : Nat) : Bool := idM (V 0) (TV V) i
def fiN (V : Nat → Nat) : Nat := fstB (V 0) (idB V)
def fiR (V : Nat → Nat) : Int32 := if fiN V < V 0 then nI (fiN V) else -6
theorem fi_at {V : Nat → Nat} {i : Nat} (h : i < V 0) (hp : idB V i = true) (hj : ∀ j, j < i → idB V j = false) : nI i = fiR V := by
  unfold fiR fiN; rw [fstB_at hp hj h, if_pos h]
theorem fi_none {V : Nat → Nat} (hj : ∀ j, j < V 0 → idB V j = false) : -6 = fiR V := by
  unfold fiR fiN; rw [fstB_none hj, if_neg (Nat.lt_irrefl _)]
theorem fi_ne {V : Nat → Nat} (h : ¬ fiR V = -6) : fiN V < V 0 ∧ fiR V = nI (fiN V) := by
  unfold fiR at h ⊢
  by_cases c : fiN V < V 0
  · rw [if_pos c]; exact ⟨c, rfl⟩
  · rw [if_neg c] at h; exact absurd rfl h
theorem fi_eq {V : Nat → Nat} (h : fiR V = -6) (hV : V 0 ≤ 24) : ¬ fiN V < V 0 := by
  unfold fiR at h
  intro c
  rw [if_pos c] at h
  exact nI_ne6 (by omega) h
def tdK : Nat → (Nat → Nat) → Nat × (Nat → Nat)
  | 0, V => (0, V)
  | f + 1, V => if fiN V < V 0 then ((tdK f (strV V (fiN V))).1 + 1, (tdK f (strV V (fiN V))).2) else (0, V)
def jnV (V : Nat → Nat) (c r : Nat) : Nat → Nat := updN (updN (updN (updN (updN V 1 (V 1 + 1)) (129 + 4 * V 1 + 0) c) (129 + 4 * V 1 + 1) r) (129 + 4 * V 1 + 2) 0) (129 + 4 * V 1 + 3) 0
def shG (V : Nat → Nat) (i k : Nat) : Nat → Nat := fun q => if q = 1 then V 1 - 1 else if 129 + 4 * i ≤ q ∧ q < k then V (q + 4) else V q
def zrG (V : Nat → Nat) (i e : Nat) : Nat → Nat := fun q => if q = 1 then V 1 - 1 else if 129 + 4 * (V 1 - 1) ≤ q ∧ q < 129 + 4 * (V 1 - 1) + e then 0 else if 129 + 4 * i ≤ q ∧ q < 129 + 4 * (V 1 - 1) then V (q + 4) else V q
def lvV (V : Nat → Nat) (i : Nat) : Nat → Nat := zrG V i 4
theorem shG_0 (V : Nat → Nat) (i : Nat) : updN V 1 (V 1 - 1) = shG V i (129 + 4 * i) := by
  funext q; unfold updN shG
  by_cases h : q = 1
  · rw [if_pos h, if_pos h]
  · rw [if_neg h, if_neg h, if_neg (by omega)]
theorem shG_s (V : Nat → Nat) {i k : Nat} (h : 129 + 4 * i ≤ k) : updN (shG V i k) k (V (k + 4)) = shG V i (k + 1) := by
  funext q; unfold updN shG
  by_cases h1 : q = k
  · subst h1; rw [if_pos rfl, if_neg (by omega), if_pos (by omega)]
  · rw [if_neg h1]
    by_cases h2 : q = 1
    · rw [if_pos h2, if_pos h2]
    · rw [if_neg h2, if_neg h2]
      by_cases h3 : 129 + 4 * i ≤ q ∧ q < k
      · rw [if_pos h3, if_pos (by omega)]
      · rw [if_neg h3, if_neg (by omega)]
theorem shG_hi (V : Nat → Nat) {i k : Nat} (h : 129 + 4 * i ≤ k) : shG V i k (k + 4) = V (k + 4) := by
  unfold shG; rw [if_neg (by omega), if_neg (by omega)]
theorem shG_e (V : Nat → Nat) {i k : Nat} (h : k = 129 + 4 * (V 1 - 1)) : shG V i k = zrG V i 0 := by
  subst h
  funext q; unfold zrG shG
  by_cases h2 : q = 1
  · rw [if_pos h2, if_pos h2]
  · rw [if_neg h2, if_neg h2]
    by_cases h3 : 129 + 4 * i ≤ q ∧ q < 129 + 4 * (V 1 - 1)
    · rw [if_pos h3, if_neg (by omega)]
    · rw [if_neg h3, if_neg (by omega)]
theorem zrG_s (V : Nat → Nat) {i e : Nat} : updN (zrG V i e) (129 + 4 * (V 1 - 1) + e) 0 = zrG V i (e + 1) := by
  funext q; unfold updN zrG
  by_cases h1 : q = 129 + 4 * (V 1 - 1) + e
  · rw [if_pos h1, if_neg (by omega), if_pos (by omega)]
  · rw [if_neg h1]
    by_cases h2 : q = 1
    · rw [if_pos h2, if_pos h2]
    · rw [if_neg h2, if_neg h2]
      by_cases h3 : 129 + 4 * (V 1 - 1) ≤ q ∧ q < 129 + 4 * (V 1 - 1) + e
      · rw [if_pos h3, if_pos (by omega)]
      · rw [if_neg h3, if_neg (show ¬ (129 + 4 * (V 1 - 1) ≤ q ∧ q < 129 + 4 * (V 1 - 1) + (e + 1)) by omega)]
def acW (V : Nat → Nat) (rs : Int32) : Nat := if rs = -6 then 2 else if rs = 100 then 8 else 3 + TV V (toN rs) 0
def acX (rs : Int32) : Nat := if rs = -6 then 2 else 3
def acV (V : Nat → Nat) (i : Nat) (rs : Int32) : Nat → Nat := updN (updN V (129 + 4 * i + acX rs) (V (129 + 4 * i + acX rs) + 1)) (acW V rs) (updN V (129 + 4 * i + acX rs) (V (129 + 4 * i + acX rs) + 1) (acW V rs) + 1)
def mdM (V : Nat → Nat) (i : Nat) : Nat := maskN 6 (fun d => decide (lstT (V 0) (TV V) (V (129 + 4 * i)) d ≤ V (129 + 4 * i + 1)))
def wbF (V : Nat → Nat) : Nat → Int32 × Nat
  | 0 => (-6, 0)
  | i + 1 => if TV V i 1 = 1 ∧ ((wbF V i).1 = -6 ∨ (wbF V i).2 < trpT (V 0 - 1) (delT (TV V) i)) then (nI i, trpT (V 0 - 1) (delT (TV V) i)) else wbF V i
def bwF (V : Nat → Nat) (z : Nat) : Nat → Nat × Nat
  | 0 => (0, 0)
  | l + 1 => if (bwF V z l).2 ≤ trpT (V 0 + 1) (wavT (V 0) (TV V) l z) then (l, trpT (V 0 + 1) (wavT (V 0) (TV V) l z)) else bwF V z l
def cnV (V : Nat → Nat) (m kt w : Nat) : Nat := if w = 0 then V 0 else if w ≤ 3 then cntN (V 0) (fun j => TV V j 1 == w - 1) else if w = 4 then cntN (V 0) (idB V) else if w = 5 then oprT (V 0) (TV V) else if w = 6 then trpT (V 0) (TV V) else if w = 7 then V 1 else if w ≤ 14 then V (2 + w - 8) else if w = 15 then m else kt
def ruV (V : Nat → Nat) (i w : Nat) : Int32 := if w = 5 then bI (idB V i) else if w = 6 then nI (cntN (V 0) (fun j => oddT (TV V) i j)) else if w = 7 then nI ((if TV V i 2 = 5 then 5 else 1) * (if TV V i 3 = 6 then 6 else 1)) else nI (TV V i w)
def meV (V : Nat → Nat) (i w : Nat) : Nat := if w = 2 then mdM V i else if w ≤ 1 then V (129 + 4 * i + w) else V (129 + 4 * i + (w - 1))
def putP (X m : Nat) (P : Nat → Nat) (k : Nat) : Nat → Nat := fun j => if m ≤ j ∧ j < m + k then byB X (k - 1 - (j - m)) else P j
def opAdd : Sig → Int32 → Int32 → Int32 → Int32 → Int32 → Int32 × Sig
  | (V, m, P, kt, H, B, L), l, k, c, d, z =>
    if (inR l (nI 0) (nI 4) && (inR c (nI 0) (nI 5) && inR d (nI 0) (nI 6))) = false then (-1, (V, m, P, kt, H, B, L))
    else if (inR k (nI 0) (nI 2) && inR z (nI 1) (nI 9)) = false then (-2, (V, m, P, kt, H, B, L))
    else if toN k = 0 ∧ 0 < toN l then (-5, (V, m, P, kt, H, B, L))
    else if V 0 = 24 then (-4, (V, m, P, kt, H, B, L))
    else (nI (V 0), (addV V (toN l) (toN k) (toN c) (toN d) (toN z), m, P, pushN kt, pushH H kt V, B, L))
def opStrike : Sig → Int32 → Int32 × Sig
  | (V, m, P, kt, H, B, L), x =>
    if hasB (V 0) x = false then (-1, (V, m, P, kt, H, B, L))
    else (nI (V 0 - 1), (strV V (toN x), m, P, pushN kt, pushH H kt V, B, L))
def opSeal : Sig → Int32 → Int32 → Int32 × Sig
  | (V, m, P, kt, H, B, L), x, z =>
    if hasB (V 0) x = false then (-1, (V, m, P, kt, H, B, L))
    else if inR z (nI 1) (nI 9) = false then (-2, (V, m, P, kt, H, B, L))
    else (nI (V (9 + 5 * toN x + 4)), (updN V (9 + 5 * toN x + 4) (toN z), m, P, pushN kt, pushH H kt V, B, L))
def opMove : Sig → Int32 → Int32 → Int32 × Sig
  | (V, m, P, kt, H, B, L), x, l =>
    if (hasB (V 0) x && inR l (nI 0) (nI 4)) = false then (-1, (V, m, P, kt, H, B, L))
    else if TV V (toN x) 1 = 0 ∧ 0 < toN l then (-5, (V, m, P, kt, H, B, L))
    else (nI (V (9 + 5 * toN x + 0)), (updN V (9 + 5 * toN x + 0) (toN l), m, P, pushN kt, pushH H kt V, B, L))
def opRead : Sig → Int32 × Sig
  | (V, m, P, kt, H, B, L) =>
    if ¬ (wrK m P 61 0 0).1 = -6 then (-3, (V, m, P, kt, H, B, L))
    else if 24 < V 0 + nrK m P 61 0 then (-4, (V, m, P, kt, H, B, L))
    else (nI (rdK m P 61 0 V 0), (rdK m P 61 0 V, 0, P, pushN kt, pushH H kt V, B, L))
def opTidy : Sig → Int32 × Sig
  | (V, m, P, kt, H, B, L) => (nI (tdK 25 V).1, ((tdK 25 V).2, m, P, pushN kt, pushH H kt V, B, L))
def opJoin : Sig → Int32 → Int32 → Int32 × Sig
  | (V, m, P, kt, H, B, L), c, r =>
    if inR c (nI 0) (nI 4) = false then (-1, (V, m, P, kt, H, B, L))
    else if inR r (nI 0) (nI 9) = false then (-2, (V, m, P, kt, H, B, L))
    else if V 1 = 10 then (-4, (V, m, P, kt, H, B, L))
    else (nI (V 1), (jnV V (toN c) (toN r), m, P, pushN kt, pushH H kt V, B, L))
def opLeave : Sig → Int32 → Int32 × Sig
  | (V, m, P, kt, H, B, L), x =>
    if hasB (V 1) x = false then (-1, (V, m, P, kt, H, B, L))
    else (nI (V (129 + 4 * toN x + 2)), (lvV V (toN x), m, P, pushN kt, pushH H kt V, B, L))
def opRank : Sig → Int32 → Int32 → Int32 × Sig
  | (V, m, P, kt, H, B, L), x, r =>
    if hasB (V 1) x = false then (-1, (V, m, P, kt, H, B, L))
    else if inR r (nI 0) (nI 9) = false then (-2, (V, m, P, kt, H, B, L))
    else (nI (V (129 + 4 * toN x + 1)), (updN V (129 + 4 * toN x + 1) (toN r), m, P, pushN kt, pushH H kt V, B, L))
def opAct : Sig → Int32 → Int32 → Int32 × Sig
  | (V, m, P, kt, H, B, L), x, d =>
    if (hasB (V 1) x && inR d (nI 0) (nI 5)) = false then (-1, (V, m, P, kt, H, B, L))
    else (rsnT (V 0) (TV V) (V (129 + 4 * toN x + 0)) (toN d) (V (129 + 4 * toN x + 1)), (acV V (toN x) (rsnT (V 0) (TV V) (V (129 + 4 * toN x + 0)) (toN d) (V (129 + 4 * toN x + 1))), m, P, pushN kt, pushH H kt V, B, L))
def opRule : Sig → Int32 → Int32 → Int32 × Sig
  | (V, m, P, kt, H, B, L), x, w => (if hasB (V 0) x = false then -1 else if inR w (nI 0) (nI 7) = false then -2 else ruV V (toN x) (toN w), (V, m, P, kt, H, B, L))
def opMember : Sig → Int32 → Int32 → Int32 × Sig
  | (V, m, P, kt, H, B, L), x, w => (if hasB (V 1) x = false then -1 else if inR w (nI 0) (nI 4) = false then -2 else nI (meV V (toN x) (toN w)), (V, m, P, kt, H, B, L))
def opAllowed : Sig → Int32 → Int32 → Int32 → Int32 → Int32 × Sig
  | (V, m, P, kt, H, B, L), c, d, r, w => (if (inR c (nI 0) (nI 4) && inR d (nI 0) (nI 5)) = false then -1 else if (inR r (nI 0) (nI 9) && inR w (nI 0) (nI 1)) = false then -2 else bI (decide (lstT (V 0) (TV V) (toN c) (toN d) ≤ toN r)), (V, m, P, kt, H, B, L))
def opWhy : Sig → Int32 → Int32 → Int32 → Int32 × Sig
  | (V, m, P, kt, H, B, L), c, d, r => (if (inR c (nI 0) (nI 4) && inR d (nI 0) (nI 5)) = false then -1 else if inR r (nI 0) (nI 9) = false then -2 else rsnT (V 0) (TV V) (toN c) (toN d) (toN r), (V, m, P, kt, H, B, L))
def opCount : Sig → Int32 → Int32 × Sig
  | (V, m, P, kt, H, B, L), w => (if inR w (nI 0) (nI 16) = false then -2 else nI (cnV V m kt (toN w)), (V, m, P, kt, H, B, L))
def opLeast : Sig → Int32 → Int32 → Int32 × Sig
  | (V, m, P, kt, H, B, L), c, d => (if (inR c (nI 0) (nI 4) && inR d (nI 0) (nI 5)) = false then -1 else if lstT (V 0) (TV V) (toN c) (toN d) = 10 then -6 else nI (lstT (V 0) (TV V) (toN c) (toN d)), (V, m, P, kt, H, B, L))
def opIf : Sig → Int32 → Int32 × Sig
  | (V, m, P, kt, H, B, L), x => (if hasB (V 0) x = false then -1 else nI (1000 + trpT (V 0 - 1) (delT (TV V) (toN x)) - trpT (V 0) (TV V)), (V, m, P, kt, H, B, L))
def opWorst : Sig → Int32 × Sig
  | (V, m, P, kt, H, B, L) => ((wbF V (V 0)).1, (V, m, P, kt, H, B, L))
def opBest : Sig → Int32 → Int32 × Sig
  | (V, m, P, kt, H, B, L), z => (if inR z (nI 1) (nI 9) = false then -2 else nI (bwF V (toN z) 5).1, (V, m, P, kt, H, B, L))
def opPut : Sig → Nat → Int32 × Sig
  | (V, m, P, kt, H, B, L), X => if sgF X 8 0 = 0 then (-2, (V, m, P, kt, H, B, L)) else if 60 < m + sgF X 8 0 then (-4, (V, m, P, kt, H, B, L)) else (nI (m + sgF X 8 0), (V, m + sgF X 8 0, putP X m P (sgF X 8 0), kt, H, B, L))
def opWipe : Sig → Int32 × Sig
  | (V, m, P, kt, H, B, L) => (nI m, (V, 0, P, kt, H, B, L))
def opFault : Sig → Int32 × Sig
  | (V, m, P, kt, H, B, L) => ((wrK m P 61 0 0).1, (V, m, P, kt, H, B, L))
def opUndo : Sig → Int32 × Sig
  | (V, m, P, kt, H, B, L) => if kt = 0 then (-5, (V, m, P, kt, H, B, L)) else (nI (kt - 1), (H (kt - 1), m, P, kt - 1, H, B, L))
def setB (B : Nat → Bool) (i : Nat) : Nat → Bool := fun j => if j = i then true else B j
def setL (L : Nat → Nat → Nat) (i : Nat) (V : Nat → Nat) : Nat → Nat → Nat := fun j => if j = i then V else L j
def opSave : Sig → Int32 → Int32 × Sig
  | (V, m, P, kt, H, B, L), x => if inR x (nI 0) (nI 1) = false then (-2, (V, m, P, kt, H, B, L)) else (nI (V 0), (V, m, P, kt, H, setB B (toN x), setL L (toN x) V))
def opRestore : Sig → Int32 → Int32 × Sig
  | (V, m, P, kt, H, B, L), x => if inR x (nI 0) (nI 1) = false then (-2, (V, m, P, kt, H, B, L)) else if B (toN x) = false then (-5, (V, m, P, kt, H, B, L)) else (nI (L (toN x) 0), (L (toN x), m, P, pushN kt, pushH H kt V, B, L))
theorem inR_iff {x : Int32} {a b : Nat} (ha : a < 2 ^ 31) (hb : b < 2 ^ 31) : inR x (nI a) (nI b) = true ↔ (a : Int) ≤ x.toInt ∧ x.toInt ≤ b := by
  unfold inR
  rw [Bool.and_eq_true, decide_eq_true_iff, decide_eq_true_iff, Int32.le_iff_toInt_le, Int32.le_iff_toInt_le, nI_toInt ha, nI_toInt hb]
theorem inR_ex {x : Int32} {a b : Nat} (h : inR x (nI a) (nI b) = true) (hb : b < 2 ^ 31) (ha : a < 2 ^ 31) : ∃ j, a ≤ j ∧ j ≤ b ∧ x = nI j ∧ toN x = j := by
  rw [inR_iff ha hb] at h
  refine ⟨x.toInt.toNat, by omega, by omega, ?_, ?_⟩
  · apply Int32.toInt_inj.mp; rw [nI_toInt (by omega)]; omega
  · show x.toNatClampNeg = _; rfl
theorem hasB_ex {x : Int32} {n : Nat} (h : hasB n x = true) (hn : n < 2 ^ 31) : ∃ j, j < n ∧ x = nI j ∧ toN x = j := by
  unfold hasB at h
  rw [Bool.and_eq_true, decide_eq_true_iff, decide_eq_true_iff, Int32.le_iff_toInt_le, Int32.lt_iff_toInt_lt, nI_toInt hn] at h
  have h0 : (0 : Int32).toInt = 0 := by decide
  rw [h0] at h
  refine ⟨x.toInt.toNat, by omega, ?_, ?_⟩
  · apply Int32.toInt_inj.mp; rw [nI_toInt (by omega)]; omega
  · show x.toNatClampNeg = _; rfl
theorem rsn_cases {n : Nat} {T : Nat → Nat → Nat} {c d rk : Nat} (hW : WfT n T) : rsnT n T c d rk = -6 ∨ rsnT n T c d rk = nI 100 ∨ ∃ j, j < n ∧ rsnT n T c d rk = nI j := by
  unfold rsnT
  split
  · rcases (rsF_best (c := c) (d := d) (rk := rk) hW n (Nat.le_refl n)).1 with ⟨h, _⟩ | ⟨j, _, h1, h2, _⟩
    · exact Or.inl h
    · exact Or.inr (Or.inr ⟨j, h1, h2⟩)
  · exact Or.inr (Or.inl rfl)
def kfI (c : Nat) : Int32 := if kindK c = 3 then -6 else nI (kindK c)
theorem kindK_le (c : Nat) : kindK c ≤ 3 := by unfold kindK; split <;> (try split) <;> (try split) <;> omega
theorem kf_n {c : Nat} : kfI c = -6 ↔ kindK c = 3 := by
  unfold kfI
  constructor
  · intro h
    by_cases e : kindK c = 3
    · exact e
    · rw [if_neg e] at h
      have := kindK_le c
      exact absurd h (nI_ne6 (by omega))
  · intro h; rw [if_pos h]
theorem kf_0 {c : Nat} : kfI c = 0 ↔ kindK c = 0 := by
  unfold kfI
  have := kindK_le c
  constructor
  · intro h
    by_cases e : kindK c = 3
    · rw [if_pos e] at h; exact absurd h (by decide)
    · rw [if_neg e] at h
      rcases Nat.eq_zero_or_pos (kindK c) with z | z
      · exact z
      · exact absurd h (nI_ne0 z (by omega))
  · intro h; rw [if_neg (by omega), h, nI_0]
theorem sgn_at {m i : Nat} {P : Nat → Nat} (h : i < m) : sgn m P i = P i := by unfold sgn; rw [if_pos h]
theorem wr_1 {m k p t : Nat} {P : Nat → Nat} (hk : m < p + k) (hp : p ≤ m) (h : rgt m P p < whl m P p) : wrK m P k p t = (nI (p + rgt m P p), t) := by
  obtain ⟨k', rfl⟩ : ∃ k', k = k' + 1 := ⟨k - 1, by omega⟩
  rw [wrK, if_pos h]
theorem wr_2 {m k p t : Nat} {P : Nat → Nat} (hk : m < p + k) (hp : p ≤ m) (h : whl m P p ≤ rgt m P p) (h2 : p + rgt m P p < m) (h3 : P (p + rgt m P p) = 59) : wrK m P k p t = wrK m P (k - 1) (p + rgt m P p + 1) (t + 1) := by
  obtain ⟨k', rfl⟩ : ∃ k', k = k' + 1 := ⟨k - 1, by omega⟩
  rw [wrK, if_neg (by omega), if_pos h2, sgn_at h2, if_pos h3, Nat.add_sub_cancel]
theorem wr_3 {m k p t : Nat} {P : Nat → Nat} (hk : m < p + k) (hp : p ≤ m) (h : whl m P p ≤ rgt m P p) (h2 : p + rgt m P p < m) (h3 : P (p + rgt m P p) ≠ 59) : wrK m P k p t = (nI (p + rgt m P p), t + 1) := by
  obtain ⟨k', rfl⟩ : ∃ k', k = k' + 1 := ⟨k - 1, by omega⟩
  rw [wrK, if_neg (by omega), if_pos h2, sgn_at h2, if_neg h3]
theorem wr_4 {m k p t : Nat} {P : Nat → Nat} (hk : m < p + k) (hp : p ≤ m) (h : whl m P p ≤ rgt m P p) (h2 : m ≤ p + rgt m P p) : wrK m P k p t = (-6, t + 1) := by
  obtain ⟨k', rfl⟩ : ∃ k', k = k' + 1 := ⟨k - 1, by omega⟩
  rw [wrK, if_neg (by omega), if_neg (by omega)]
theorem nrK_le {m : Nat} {P : Nat → Nat} : ∀ (k p : Nat), nrK m P k p ≤ k
  | 0, _ => Nat.le_refl 0
  | k + 1, p => by
    rw [nrK]
    have := nrK_le (m := m) (P := P) k (p + rgt m P p + 1)
    split
    · omega
    · split
      · split <;> omega
      · omega
def endB (X k : Nat) : Bool := decide (0 < k) && decide (X / 2 ^ (k * 8) = 0)
theorem endB_t {X k : Nat} (h1 : 0 < k) (h2 : X / 2 ^ (k * 8) = 0) : nI 1 = bI (endB X k) := by unfold endB; rw [decide_eq_true h1, decide_eq_true h2]; rfl
theorem endB_f1 {X k : Nat} (h1 : k = 0) : nI 0 = bI (endB X k) := by unfold endB; rw [decide_eq_false (by omega)]; rfl
theorem endB_f2 {X k : Nat} (h2 : ¬ X / 2 ^ (k * 8) = 0) : nI 0 = bI (endB X k) := by unfold endB; rw [decide_eq_false h2, Bool.and_false]; rfl
def badB (X k : Nat) : Bool := !endB X k && !btwB (byB X k) 33 126
theorem bad_t {b : Bool} {X k : Nat} (h : b = true ∨ (endB X k = false ∧ btwB (byB X k) 33 126 = false)) : nI 1 = bI (b || badB X k) := by
  unfold badB
  rcases h with h | ⟨h1, h2⟩
  · rw [h]; rfl
  · rw [h1, h2]; cases b <;> rfl
theorem bad_f {b : Bool} {X k : Nat} (h : b = false) (h2 : endB X k = true ∨ btwB (byB X k) 33 126 = true) : nI 0 = bI (b || badB X k) := by
  unfold badB
  rw [h]
  rcases h2 with h2 | h2
  · rw [h2]; rfl
  · rw [h2]; cases endB X k <;> rfl
theorem end_mono {X k j : Nat} (h : X / 2 ^ (k * 8) = 0) (hj : k ≤ j) : X / 2 ^ (j * 8) = 0 := by
  rw [show j * 8 = k * 8 + (j - k) * 8 by omega, Nat.pow_add, ← Nat.div_div_eq_div_mul, h, Nat.zero_div]
theorem put_rel (X : Nat) : ∀ (f k : Nat), f + k = 8 → (k = 0 ∨ X ≠ 0) → (∀ j, j < k → X / 2 ^ (j * 8) ≠ 0 ∧ btwB (byB X j) 33 126 = true) → sgF X f k = if anyN 8 (badB X) = true then 0 else cntN 8 (fun j => !endB X j)
  | 0, k, e, _, h => by
    have hk : k = 8 := by omega
    subst hk
    have e1 : ∀ j, j < 8 → endB X j = false := fun j hj => by unfold endB; rw [decide_eq_false (h j hj).1, Bool.and_false]
    rw [anyN_false.mpr (fun j hj => by unfold badB; rw [(h j hj).2]; simp), if_neg (by decide), cntN_cong (q := fun _ => true) (fun j hj => by rw [e1 j hj]; rfl)]
    rfl
  | f + 1, k, e, hX, h => by
    rw [sgF]
    by_cases c : X / 2 ^ (k * 8) = 0
    · rw [if_pos c]
      rcases Nat.eq_zero_or_pos k with z | z
      · subst z
        have : anyN 8 (badB X) = true := by
          rw [anyN_true]
          refine ⟨0, by omega, ?_⟩
          have b0 : byB X 0 = 0 := by
            rw [Nat.zero_mul, Nat.pow_zero, Nat.div_one] at c
            unfold byB; rw [c]
          unfold badB endB; rw [b0]; rfl
        rw [if_pos this]
      · have e1 : ∀ j, j < 8 → endB X j = decide (k ≤ j) := by
          intro j hj
          unfold endB
          by_cases d : k ≤ j
          · rw [decide_eq_true d, decide_eq_true (end_mono c d), decide_eq_true (by omega)]; rfl
          · rw [decide_eq_false d, decide_eq_false (h j (by omega)).1, Bool.and_false]
        have e2 : anyN 8 (badB X) = false := by
          rw [anyN_false]; intro j hj
          unfold badB; rw [e1 j hj]
          by_cases d : k ≤ j
          · simp [d]
          · rw [(h j (by omega)).2]; simp
        rw [if_neg (by rw [e2]; decide), cntN_cong (q := fun j => !decide (k ≤ j)) (fun j hj => by rw [e1 j hj])]
        have : ∀ k, k < 9 → cntN 8 (fun j => !decide (k ≤ j)) = k := by decide +kernel
        exact (this k (by omega)).symm
    · rw [if_neg c]
      by_cases d : btwB (byB X k) 33 126 = true
      · rw [if_pos d]
        refine put_rel X f (k + 1) (by omega) (Or.inr (fun z => c (by rw [z, Nat.zero_div]))) (fun j hj => ?_)
        rcases Nat.lt_or_ge j k with x | x
        · exact h j x
        · rw [show j = k by omega]; exact ⟨c, d⟩
      · rw [if_neg d]
        have : anyN 8 (badB X) = true := by
          rw [anyN_true]
          refine ⟨k, by omega, ?_⟩
          unfold badB endB
          rw [decide_eq_false c, Bool.and_false]
          simpa using d
        rw [if_pos this]
theorem put_all (X : Nat) : sgF X 8 0 = if anyN 8 (badB X) = true then 0 else cntN 8 (fun j => !endB X j) := put_rel X 8 0 rfl (Or.inl rfl) (fun j h => absurd h (Nat.not_lt_zero j))
def wrD (pd : Nat → Int32) (X m n e : Nat) : Nat → Int32 := fun j => if m + n - e ≤ j ∧ j < m + n then nI (byB X (m + n - 1 - j)) else pd j
theorem wrD_0 (pd : Nat → Int32) (X m n : Nat) : wrD pd X m n 0 = pd := by funext j; unfold wrD; rw [if_neg (by omega)]
theorem wrD_s (pd : Nat → Int32) {X m n e : Nat} (he : e < n) : upd (wrD pd X m n e) (m + n - 1 - e) (nI (byB X e)) = wrD pd X m n (e + 1) := by
  funext j; unfold upd wrD
  by_cases c : j = m + n - 1 - e
  · rw [if_pos c, if_pos (by omega), show m + n - 1 - j = e by omega]
  · rw [if_neg c]
    by_cases d : m + n - e ≤ j ∧ j < m + n
    · rw [if_pos d, if_pos (by omega)]
    · rw [if_neg d, if_neg (by omega)]
theorem relP_put {pd : Nat → Int32} {m X n : Nat} {P : Nat → Nat} (h : relP pd m P) : relP (wrD pd X m n n) (m + n) (putP X m P n) := by
  intro j hj
  unfold wrD putP
  by_cases c : m ≤ j
  · rw [if_pos (by omega), if_pos (by omega), show m + n - 1 - j = n - 1 - (j - m) by omega]
  · rw [if_neg (by omega), if_neg (by omega)]; exact h j (by omega)
/-- a row's cells matter below its length alone -/
theorem xCellP {D : va_G} {cl : List vw_C} {ws : va_W} {H : Heap} {p a n : Nat} {cA : ClassId} {f g : Nat → Int32} (hP : va_P D cl ws H) (he : ws[p]? = some (a, .inl (cA, n, .inl f))) (h : ∀ j, j < n → f j = g j) : va_P D cl (ws.set p (a, .inl (cA, n, .inl g))) H := by
  intro k q hk
  by_cases e : k = p
  · subst e
    have hl := (List.getElem?_eq_some_iff.mp he).1
    rw [List.getElem?_set_self hl] at hk
    cases hk
    have := hP k _ he
    show H[a]? = some (vp_cell cA (n, .inl g))
    have e2 : vp_cell cA (n, .inl f) = vp_cell cA (n, .inl g) := by
      rw [vp_cell_i, vp_cell_i]; unfold arrV; congr 1
      apply Array.ext
      · simp
      · intro i h1 h2
        have h3 : i < n := by simpa using h1
        simp [h i h3]
    rw [← e2]; exact this
  · rw [List.getElem?_set_ne (Ne.symm e)] at hk
    exact hP k q hk
def mixV (V U : Nat → Nat) (e : Nat) : Nat → Nat := fun q => if q < e then U q else V q
theorem mixV_0 (V U : Nat → Nat) : mixV V U 0 = V := by funext q; unfold mixV; rw [if_neg (Nat.not_lt_zero q)]
theorem mixV_s (V U : Nat → Nat) (e : Nat) : updN (mixV V U e) e (U e) = mixV V U (e + 1) := by
  funext q; unfold updN mixV
  by_cases c : q = e
  · subst c; rw [if_pos rfl, if_pos (by omega)]
  · rw [if_neg c]
    by_cases d : q < e
    · rw [if_pos d, if_pos (by omega)]
    · rw [if_neg d, if_neg (by omega)]
theorem mixV_e {V U : Nat → Nat} {e : Nat} (h : 169 ≤ e) : ∀ j, j < 169 → vI (mixV V U e) j = vI U j := by
  intro j hj; unfold vI mixV; rw [if_pos (by omega)]
theorem relS_save {sv sl : Nat → Int32} {B : Nat → Bool} {L : Nat → Nat → Nat} {V : Nat → Nat} {i : Nat} (hi : i < 2) (h : relS sv sl B L) : relS (upd sv i (nI 1)) (cpH sl i V 169) (setB B i) (setL L i V) := by
  intro j hj
  by_cases c : j = i
  · subst c
    refine ⟨by rw [upd_s]; unfold setB; rw [if_pos rfl]; rfl, fun _ k hk => ?_⟩
    unfold cpH setL; rw [if_pos (by omega), if_pos rfl, Nat.add_sub_cancel_left]
  · obtain ⟨h1, h2⟩ := h j hj
    refine ⟨by rw [upd_n c, h1]; unfold setB; rw [if_neg c], fun hb k hk => ?_⟩
    unfold setB at hb; rw [if_neg c] at hb
    unfold cpH setL; rw [if_neg (by omega), if_neg c]; exact h2 hb k hk
theorem td_s {V : Nat → Nat} {f : Nat} (hf : V 0 < f) (h : fiN V < V 0) : tdK f V = ((tdK (f - 1) (strV V (fiN V))).1 + 1, (tdK (f - 1) (strV V (fiN V))).2) := by
  obtain ⟨f', rfl⟩ : ∃ f', f = f' + 1 := ⟨f - 1, by omega⟩
  rw [tdK, if_pos h, Nat.add_sub_cancel]
theorem td_e {V : Nat → Nat} {f : Nat} (h : ¬ fiN V < V 0) : tdK f V = (0, V) := by
  cases f with
  | zero => rfl
  | succ f => rw [tdK, if_neg h]
theorem str_TV {V : Nat → Nat} {i j w : Nat} (hj : j < V 0 - 1) (hw : w < 5) : TV (strV V i) j w = delT (TV V) i j w := by
  unfold TV strV delT skp
  show _ = V (9 + 5 * (if j < i then j else j + 1) + w)
  rw [if_neg (by omega), if_neg (by omega)]
  by_cases c : j < i
  · rw [if_pos c, if_neg (by omega)]
  · rw [if_neg c, if_pos (by omega)]; congr 1; omega
theorem WfT_str {V : Nat → Nat} {i : Nat} (hW : WfT (V 0) (TV V)) : WfT (strV V i 0) (TV (strV V i)) := by
  intro j hj
  have hj : j < V 0 - 1 := hj
  rw [str_TV hj (by omega), str_TV hj (by omega), str_TV hj (by omega), str_TV hj (by omega), str_TV hj (by omega)]
  exact WfT_del hW j hj
