theorem n100b : (100 : Int32) = nI 100 := by decide
theorem ac_2 {V : Nat → Nat} {i : Nat} {rs : Int32} (h : rs = -6) : updN (updN V (129 + 4 * i + 2) (V (129 + 4 * i + 2) + 1)) 2 (updN V (129 + 4 * i + 2) (V (129 + 4 * i + 2) + 1) 2 + 1) = acV V i rs := by
  have e1 : acX rs = 2 := by unfold acX; rw [if_pos h]
  have e2 : acW V rs = 2 := by unfold acW; rw [if_pos h]
  unfold acV; rw [e1, e2]
theorem ac_8 {V : Nat → Nat} {i : Nat} {rs : Int32} (h : rs ≠ -6) (h2 : rs = nI 100) : updN (updN V (129 + 4 * i + 3) (V (129 + 4 * i + 3) + 1)) 8 (updN V (129 + 4 * i + 3) (V (129 + 4 * i + 3) + 1) 8 + 1) = acV V i rs := by
  have e1 : acX rs = 3 := by unfold acX; rw [if_neg h]
  have e2 : acW V rs = 8 := by unfold acW; rw [if_neg h, if_pos (by rw [n100b]; exact h2)]
  unfold acV; rw [e1, e2]
theorem ac_j {V : Nat → Nat} {i j : Nat} {rs : Int32} (h : rs = nI j) (h6 : ¬ nI j = -6) (h1 : ¬ nI j = nI 100) (ht : toN (nI j) = j) : updN (updN V (129 + 4 * i + 3) (V (129 + 4 * i + 3) + 1)) (3 + TV V j 0) (updN V (129 + 4 * i + 3) (V (129 + 4 * i + 3) + 1) (3 + TV V j 0) + 1) = acV V i rs := by
  subst h
  have e1 : acX (nI j) = 3 := by unfold acX; rw [if_neg h6]
  have e2 : acW V (nI j) = 3 + TV V j 0 := by unfold acW; rw [if_neg h6, if_neg (by rw [n100b]; exact h1), ht]
  unfold acV; rw [e1, e2]
theorem TV_g {V : Nat → Nat} {q x j w : Nat} (hj : j < 24) (hw : w < 5) (hq : 129 ≤ q) : TV (updN V q x) j w = TV V j w := by
  unfold TV updN; rw [if_neg (by omega)]
theorem inR_w {j b : Nat} (h : j ≤ b) (hb : b < 2 ^ 31) : inR (nI j) (nI 0) (nI b) = true := by
  rw [inR_nI (by omega) (by decide) hb]; unfold btwB; simp [h]
theorem inR_o {x : Int32} {n : Nat} (h : x.toInt < ((0 : Nat) : Int) ∨ ((0 : Nat) : Int) + ((n + 1 : Nat) : Int) ≤ x.toInt) (hn : n < 2 ^ 31 := by decide) : inR x (nI 0) (nI n) = false := by
  cases e : inR x (nI 0) (nI n)
  · rfl
  · rw [inR_iff (by decide) hn] at e; omega
theorem inR_n {x : Int32} (h : x.toInt < ((5 : Nat) : Int) ∨ ((5 : Nat) : Int) + ((3 : Nat) : Int) ≤ x.toInt) (h2 : inR x (nI 0) (nI 4) = false) : inR x (nI 0) (nI 7) = false := by
  cases e : inR x (nI 0) (nI 7)
  · rfl
  · rw [inR_iff (by decide) (by decide)] at e
    have : inR x (nI 0) (nI 4) = true := by rw [inR_iff (by decide) (by decide)]; omega
    rw [this] at h2; cases h2
theorem wb_t {V : Nat → Nat} {i t : Nat} {x : Int32} (h1 : TV V i 1 = 1) (h2 : x = -6 ∨ t < trpT (V 0 - 1) (delT (TV V) i)) (h : (x, t) = wbF V i) : (nI i, trpT (V 0 - 1) (delT (TV V) i)) = wbF V (i + 1) := by
  rw [wbF, ← h, if_pos ⟨h1, h2⟩]
theorem wb_f {V : Nat → Nat} {i t : Nat} {x : Int32} (h1 : TV V i 1 ≠ 1 ∨ (x ≠ -6 ∧ trpT (V 0 - 1) (delT (TV V) i) ≤ t)) (h : (x, t) = wbF V i) : (x, t) = wbF V (i + 1) := by
  rw [wbF, ← h, if_neg]
  rintro ⟨a, b⟩
  rcases h1 with h1 | ⟨c, d⟩
  · exact h1 a
  · rcases b with b | b
    · exact c b
    · exact absurd d (Nat.not_le.mpr b)
theorem bw_t {V : Nat → Nat} {z l b t : Nat} (h1 : t ≤ trpT (V 0 + 1) (wavT (V 0) (TV V) l z)) (h : (b, t) = bwF V z l) : (l, trpT (V 0 + 1) (wavT (V 0) (TV V) l z)) = bwF V z (l + 1) := by
  rw [bwF, ← h, if_pos h1]
theorem bw_f {V : Nat → Nat} {z l b t : Nat} (h1 : trpT (V 0 + 1) (wavT (V 0) (TV V) l z) < t) (h : (b, t) = bwF V z l) : (b, t) = bwF V z (l + 1) := by
  rw [bwF, ← h, if_neg (Nat.not_le.mpr h1)]
theorem odd_sym (T : Nat → Nat → Nat) (i j : Nat) : oddT T i j = oddT T j i := by
  unfold oddT meetT
  rw [show (T i 2 == T j 2 || T i 2 == 5 || T j 2 == 5) = (T j 2 == T i 2 || T j 2 == 5 || T i 2 == 5) by rw [Bool.beq_comm (a := T i 2), Bool.or_assoc, Bool.or_assoc, Bool.or_comm (T i 2 == 5)], show (T i 3 == T j 3 || T i 3 == 6 || T j 3 == 6) = (T j 3 == T i 3 || T j 3 == 6 || T i 3 == 6) by rw [Bool.beq_comm (a := T i 3), Bool.or_assoc, Bool.or_assoc, Bool.or_comm (T i 3 == 6)]]
  congr 1
  cases T i 1 == 1 <;> cases T j 1 == 1 <;> rfl
theorem odd_one {T : Nat → Nat → Nat} {i j : Nat} (h : oddT T i j = true) : ¬ (T i 1 = 1 ↔ T j 1 = 1) := by
  intro q
  have e : nI 0 = bI (oddT T i j) := oddT_z q
  rw [h] at e; exact absurd e (by decide)
theorem opr_two (n : Nat) (T : Nat → Nat → Nat) : sumN n (fun i => cntN n (fun j => oddT T i j)) = 2 * oprT n T := by
  have e1 : sumN n (fun i => cntN n (fun j => oddT T i j)) = sumN n (fun i => (if T i 1 = 1 then cntN n (fun j => oddT T i j) else 0) + (if T i 1 = 1 then 0 else cntN n (fun j => oddT T i j))) := sumN_cong (fun i _ => by split <;> omega)
  have e2 : sumN n (fun i => if T i 1 = 1 then 0 else cntN n (fun j => oddT T i j)) = oprT n T := by
    have : ∀ i, i < n → (if T i 1 = 1 then 0 else cntN n (fun j => oddT T i j)) = sumN n (fun j => if T j 1 = 1 then (if oddT T j i = true then 1 else 0) else 0) := by
      intro i _
      split
      · rename_i h
        refine Eq.trans (sumN_zero (n := n)).symm (sumN_cong (fun j _ => ?_))
        by_cases h2 : T j 1 = 1
        · rw [if_pos h2, if_neg (fun q => odd_one q ⟨fun _ => h, fun _ => h2⟩)]
        · rw [if_neg h2]
      · rename_i h
        unfold cntN
        refine sumN_cong (fun j _ => ?_)
        show (if oddT T i j = true then 1 else 0) = _
        rw [odd_sym T i j]
        by_cases c : T j 1 = 1
        · rw [if_pos c]
        · rw [if_neg c, if_neg (fun q => odd_one q ⟨fun z => absurd z c, fun z => absurd z h⟩)]
    rw [sumN_cong this, sumN_swap]
    unfold oprT
    refine sumN_cong (fun j _ => ?_)
    split
    · rfl
    · exact sumN_zero
  rw [e1, sumN_add, e2]
  show oprT n T + oprT n T = _
  omega
theorem sm_opr {V : Nat → Nat} : smF V 5 (V 0) / 2 = oprT (V 0) (TV V) := by
  have : smF V 5 (V 0) = 2 * oprT (V 0) (TV V) := by rw [← opr_two]; rfl
  omega
theorem sm5_lt {V : Nat → Nat} (hV : V 0 ≤ 24) : smF V 5 (V 0) < 2 ^ 31 := by
  have : smF V 5 (V 0) ≤ V 0 * 24 := sumN_le (fun i _ => Nat.le_trans (show cntN (V 0) (fun j => oddT (TV V) i j) ≤ V 0 * 1 from sumN_le (fun j _ => by split <;> omega)) (by omega))
  have : V 0 * 24 ≤ 24 * 24 := Nat.mul_le_mul_right 24 hV
  omega
theorem cn_sm1 {V : Nat → Nat} {m kt : Nat} : smF V 1 (V 0) = cnV V m kt 1 := sumN_cong (fun i _ => by unfold smP; simp)
theorem cn_sm2 {V : Nat → Nat} {m kt : Nat} : smF V 2 (V 0) = cnV V m kt 2 := sumN_cong (fun i _ => by unfold smP; simp)
theorem cn_sm3 {V : Nat → Nat} {m kt : Nat} : smF V 3 (V 0) = cnV V m kt 3 := sumN_cong (fun i _ => by unfold smP; simp)
theorem cn_sm4 {V : Nat → Nat} {m kt : Nat} : smF V 4 (V 0) = cnV V m kt 4 := sumN_cong (fun i _ => by unfold smP; simp)
