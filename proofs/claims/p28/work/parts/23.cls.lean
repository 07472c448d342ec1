/-! The class: its world, and how it holds the numbers. -/
abbrev clsN (kA : Nat → ClassId) (x s b t : Nat → Nat) (sl hs : Nat → Option Nat) (h : Nat → Int32) (tf : Nat → Nat → Int32) (tz : Int32) (f g : Nat → Nat → Int32) (n z d : Nat) (ln kt : Nat) : va_W := [((x 0), .inr (4, [.ref (s 0), .ref (b 0), .ref (x 1), .ref (x 2), .int (nI kt), .ref (t 0)])), ((x 1), .inl (kA 3, 2, .inr (.inr (.inr (.inr sl))))), ((x 2), .inl (kA 3, 6, .inr (.inr (.inr (.inr hs))))), ((b 0), .inr (1, [.ref (b 1), .int (nI ln)])), ((b 1), .inl (kA 1, 60, .inl h)),
  ((t 0), .inr (2, [.ref (t 1), .ref (t 2), .ref (t 3), .ref (t 4), .ref (t 5), .ref (t 6), .int tz])), ((t 1), .inl (kA 0, 25, .inl (tf 0))), ((t 2), .inl (kA 0, 25, .inl (tf 1))), ((t 3), .inl (kA 0, 25, .inl (tf 2))), ((t 4), .inl (kA 0, 25, .inl (tf 3))), ((t 5), .inl (kA 0, 25, .inl (tf 4))), ((t 6), .inl (kA 0, 25, .inl (tf 5))),
  ((s 0), .inr (3, [.ref (s 1), .ref (s 8)])), ((s 1), .inr (2, [.ref (s 2), .ref (s 3), .ref (s 4), .ref (s 5), .ref (s 6), .ref (s 7), .int (nI n)])), ((s 2), .inl (kA 0, 25, .inl (f 0))), ((s 3), .inl (kA 0, 25, .inl (f 1))), ((s 4), .inl (kA 0, 25, .inl (f 2))), ((s 5), .inl (kA 0, 25, .inl (f 3))), ((s 6), .inl (kA 0, 25, .inl (f 4))), ((s 7), .inl (kA 0, 25, .inl (f 5))),
  ((s 8), .inr (0, [.ref (s 9), .ref (s 10), .ref (s 11), .ref (s 12), .ref (s 13), .int (nI z), .int (nI d)])), ((s 9), .inl (kA 0, 10, .inl (g 0))), ((s 10), .inl (kA 0, 10, .inl (g 1))), ((s 11), .inl (kA 0, 10, .inl (g 2))), ((s 12), .inl (kA 0, 10, .inl (g 3))), ((s 13), .inl (kA 0, 6, .inl (g 4)))]
abbrev clsW (kA : Nat → ClassId) (x s b t : Nat → Nat) (sl hs : Nat → Option Nat) (h : Nat → Int32) (tf : Nat → Nat → Int32) (tz : Int32) (f g : Nat → Nat → Int32) (V : Nat → Nat) (ln kt : Nat) : va_W := clsN kA x s b t sl hs h tf tz f g (V 0) (V 1) (V 2) ln kt
theorem clsU {kA : Nat → ClassId} {x s b t : Nat → Nat} {sl hs : Nat → Option Nat} {h : Nat → Int32} {tf : Nat → Nat → Int32} {tz : Int32} {f g : Nat → Nat → Int32} {U : Nat → Nat} {n z d ln kt : Nat} {tl : va_W} (h0 : U 0 = n) (h1 : U 1 = z) (h2 : U 2 = d) : clsN kA x s b t sl hs h tf tz f g n z d ln kt ++ tl = clsW kA x s b t sl hs h tf tz f g U ln kt ++ tl := by
  subst h0; subst h1; subst h2; rfl
def relN (V : Nat → Nat) (f g : Nat → Nat → Int32) : Prop := relT f (V 0) (TV V) ∧ (∀ j, j < V 1 → ∀ w, w < 4 → g w j = nI (V (129 + 4 * j + w))) ∧ ∀ k, k < 6 → g 4 k = nI (V (3 + k))
abbrev Ent : Type := (Nat → Nat) × (Nat → Nat → Int32) × (Nat → Nat → Int32) × (Nat → Nat)
def cellQ (kA : Nat → ClassId) : Option Ent → va_W
  | none => []
  | some (a, f, g, U) => stW kA a f (nI (U 0)) g (nI (U 1)) (nI (U 2))
def adrQ : Option Ent → Option Nat
  | none => none
  | some (a, _, _, _) => some (a 0)
def flatQ (kA : Nat → ClassId) (Q : Nat → Option Ent) : va_W := cellQ kA (Q 0) ++ (cellQ kA (Q 1) ++ (cellQ kA (Q 2) ++ (cellQ kA (Q 3) ++ (cellQ kA (Q 4) ++ (cellQ kA (Q 5) ++ (cellQ kA (Q 6) ++ cellQ kA (Q 7)))))))
def setQ (Q : Nat → Option Ent) (j : Nat) (e : Option Ent) : Nat → Option Ent := fun i => if i = j then e else Q i
theorem setQ_s {Q : Nat → Option Ent} {j : Nat} {e : Option Ent} : setQ Q j e j = e := by unfold setQ; rw [if_pos rfl]
theorem setQ_n {Q : Nat → Option Ent} {i j : Nat} {e : Option Ent} (h : i ≠ j) : setQ Q j e i = Q i := by unfold setQ; rw [if_neg h]
theorem setQ_2 {Q : Nat → Option Ent} {j : Nat} {e d : Option Ent} : setQ (setQ Q j e) j d = setQ Q j d := by
  funext i; unfold setQ; split <;> rfl
theorem mvQ {a r x r2 : va_W} (h : r.Perm (x ++ r2)) : (a ++ r).Perm (x ++ (a ++ r2)) := by
  refine (List.Perm.append_left a h).trans ?_
  rw [← List.append_assoc, ← List.append_assoc]
  exact List.Perm.append_right r2 List.perm_append_comm
theorem flat_at (kA : Nat → ClassId) (Q : Nat → Option Ent) {j : Nat} (hj : j < 8) : (flatQ kA Q).Perm (cellQ kA (Q j) ++ flatQ kA (setQ Q j none)) := by
  have b : ∀ (y r : va_W), (y ++ r).Perm (y ++ ([] ++ r)) := fun y r => List.Perm.refl _
  have b0 : ∀ (y : va_W), y.Perm (y ++ []) := fun y => by rw [List.append_nil]
  rcases (show j = 0 ∨ j = 1 ∨ j = 2 ∨ j = 3 ∨ j = 4 ∨ j = 5 ∨ j = 6 ∨ j = 7 by omega) with rfl | rfl | rfl | rfl | rfl | rfl | rfl | rfl
  · exact b _ _
  · exact mvQ (b _ _)
  · exact mvQ (mvQ (b _ _))
  · exact mvQ (mvQ (mvQ (b _ _)))
  · exact mvQ (mvQ (mvQ (mvQ (b _ _))))
  · exact mvQ (mvQ (mvQ (mvQ (mvQ (b _ _)))))
  · exact mvQ (mvQ (mvQ (mvQ (mvQ (mvQ (b _ _))))))
  · exact mvQ (mvQ (mvQ (mvQ (mvQ (mvQ (mvQ (b0 _)))))))
theorem flat_set (kA : Nat → ClassId) (Q : Nat → Option Ent) {j : Nat} (e : Option Ent) (hj : j < 8) : (flatQ kA (setQ Q j e)).Perm (cellQ kA e ++ flatQ kA (setQ Q j none)) := by
  have := flat_at kA (setQ Q j e) hj
  rw [setQ_s, setQ_2] at this; exact this
theorem xPerP {D : va_G} {cl : List vw_C} {ws ws2 : va_W} {H : Heap} (hP : va_P D cl ws H) (h : ws.Perm ws2) : va_P D cl ws2 H := by
  intro k q hq
  obtain ⟨i, hi⟩ := List.getElem?_of_mem (h.mem_iff.mpr (List.mem_of_getElem? hq))
  exact hP i q hi
theorem va_D_iff {A : Nat → Prop} {ws : va_W} : va_D A ws ↔ ws.Pairwise (fun p q => p.1 ≠ q.1) ∧ ∀ q ∈ ws, A q.1 := by
  constructor
  · rintro ⟨h1, h2⟩
    refine ⟨List.pairwise_iff_getElem.mpr (fun i j hi hj hij e => ?_), fun q hq => ?_⟩
    · have := h1 i j _ _ (List.getElem?_eq_getElem hi) (List.getElem?_eq_getElem hj) e
      omega
    · obtain ⟨i, hi⟩ := List.getElem?_of_mem hq
      exact h2 i q hi
  · rintro ⟨h1, h2⟩
    rw [List.pairwise_iff_getElem] at h1
    refine ⟨fun i j p q hi hj e => ?_, fun k q hk => h2 q (List.mem_of_getElem? hk)⟩
    obtain ⟨li, rfl⟩ := List.getElem?_eq_some_iff.mp hi
    obtain ⟨lj, rfl⟩ := List.getElem?_eq_some_iff.mp hj
    rcases Nat.lt_trichotomy i j with c | c | c
    · exact absurd e (h1 i j li lj c)
    · exact c
    · exact absurd e.symm (h1 j i lj li c)
theorem xPerD {A : Nat → Prop} {ws ws2 : va_W} (hD : va_D A ws) (h : ws.Perm ws2) : va_D A ws2 := by
  rw [va_D_iff] at hD ⊢
  exact ⟨(h.pairwise_iff (fun e => Ne.symm e)).mp hD.1, fun q hq => hD.2 q (h.mem_iff.mpr hq)⟩
/-- a state out of the tail, and what is left -/
theorem focus {kA : Nat → ClassId} {tl L : va_W} {Q : Nat → Option Ent} {j : Nat} {a : Nat → Nat} {f g : Nat → Nat → Int32} {U : Nat → Nat} (h : tl.Perm (flatQ kA Q)) (hj : j < 8) (e : Q j = some (a, f, g, U)) : (L ++ tl).Perm (L ++ stW kA a f (nI (U 0)) g (nI (U 1)) (nI (U 2)) ++ flatQ kA (setQ Q j none)) := by
  rw [List.append_assoc]
  refine List.Perm.append_left L (h.trans ?_)
  have := flat_at kA Q hj
  rw [e] at this; exact this
def QR (kA : Nat → ClassId) (sl hs : Nat → Option Nat) (tl : va_W) (kt : Nat) (HH : Nat → Nat → Nat) (HB : Nat → Bool) (LL : Nat → Nat → Nat) (Q : Nat → Option Ent) : Prop :=
  tl.Perm (flatQ kA Q) ∧ (∀ i, i < 2 → sl i = adrQ (Q i)) ∧ (∀ i, i < 6 → hs i = adrQ (Q (i + 2))) ∧ (∀ i, i < 2 → HB i = false → Q i = none) ∧ (∀ i, i < 2 → HB i = true → ∃ a f g, Q i = some (a, f, g, LL i) ∧ relN (LL i) f g) ∧ ∀ i, i < kt → ∃ a f g, Q (i + 2) = some (a, f, g, HH i) ∧ relN (HH i) f g
def ClsR (kA : Nat → ClassId) (x s b t : Nat → Nat) : Sig → va_W → Prop
  | (V, m, P, kt, H, B, L), u => ∃ (sl hs : Nat → Option Nat) (h : Nat → Int32) (tf : Nat → Nat → Int32) (tz : Int32) (f g : Nat → Nat → Int32) (tl : va_W) (Q : Nat → Option Ent), u = clsW kA x s b t sl hs h tf tz f g V m kt ++ tl ∧ relN V f g ∧ relP h m P ∧ QR kA sl hs tl kt H B L Q
theorem retC {kA : Nat → ClassId} {x s b t : Nat → Nat} {op : Int32 × Sig} {r : Int32} {S2 : Sig} {u : va_W} (E : op = (r, S2)) (h : ClsR kA x s b t S2 u) : r = op.1 ∧ ClsR kA x s b t op.2 u := by
  subst E; exact ⟨rfl, h⟩
/-- where a named state's cell lies -/
theorem st_in {kA : Nat → ClassId} {tl : va_W} {Q : Nat → Option Ent} {j v : Nat} (h : tl.Perm (flatQ kA Q)) (hj : j < 8) (e : some v = adrQ (Q j)) : ∃ (k : Nat) (vs : List Value), tl[k]? = some (v, .inr (3, vs)) := by
  cases c : Q j with
  | none => rw [c] at e; cases e
  | some q =>
    obtain ⟨a, f, g, U⟩ := q
    rw [c] at e
    have e : v = a 0 := Option.some.inj e
    subst e
    have : ((a 0), Sum.inr (3, [Value.ref (a 1), Value.ref (a 8)])) ∈ tl := by
      rw [h.mem_iff, (flat_at kA Q hj).mem_iff, c]
      exact List.mem_append_left _ (List.mem_cons_self ..)
    obtain ⟨k, hk⟩ := List.getElem?_of_mem this
    exact ⟨k, _, hk⟩
theorem at_tl {L tl : va_W} {k n : Nat} {q : Nat × va_E} (h : tl[k]? = some q) (hn : L.length = n) : (L ++ tl)[n + k]? = some q := by
  subst hn; rw [List.getElem?_append_right (by omega), Nat.add_sub_cancel_left]; exact h
/-- the oldest goes to the end -/
def rotH (hs : Nat → Option Nat) : Nat → Option Nat := fun i => if i < 5 then hs (i + 1) else if i = 5 then hs 0 else hs i
def rotQ (Q : Nat → Option Ent) : Nat → Option Ent := fun i => if i < 2 then Q i else if i < 7 then Q (i + 1) else if i = 7 then Q 2 else Q i
theorem flat_rot (kA : Nat → ClassId) (Q : Nat → Option Ent) : (flatQ kA Q).Perm (flatQ kA (rotQ Q)) := by
  show (cellQ kA (Q 0) ++ (cellQ kA (Q 1) ++ (cellQ kA (Q 2) ++ (cellQ kA (Q 3) ++ (cellQ kA (Q 4) ++ (cellQ kA (Q 5) ++ (cellQ kA (Q 6) ++ cellQ kA (Q 7)))))))).Perm (cellQ kA (Q 0) ++ (cellQ kA (Q 1) ++ (cellQ kA (Q 3) ++ (cellQ kA (Q 4) ++ (cellQ kA (Q 5) ++ (cellQ kA (Q 6) ++ (cellQ kA (Q 7) ++ cellQ kA (Q 2))))))))
  refine List.Perm.append_left _ (List.Perm.append_left _ ?_)
  refine (List.perm_append_comm).trans ?_
  simp only [List.append_assoc]
  exact List.Perm.refl _
theorem QR_rot {kA : Nat → ClassId} {sl hs : Nat → Option Nat} {tl : va_W} {HH : Nat → Nat → Nat} {HB : Nat → Bool} {LL : Nat → Nat → Nat} {Q : Nat → Option Ent} (h : QR kA sl hs tl 6 HH HB LL Q) : QR kA sl (rotH hs) tl 5 (fun i => HH (i + 1)) HB LL (rotQ Q) := by
  obtain ⟨h1, h2, h3, h4, h5, h6⟩ := h
  refine ⟨h1.trans (flat_rot kA Q), fun i hi => ?_, fun i hi => ?_, fun i hi hb => ?_, fun i hi hb => ?_, fun i hi => ?_⟩
  · unfold rotQ; rw [if_pos hi]; exact h2 i hi
  · unfold rotH rotQ
    by_cases c : i < 5
    · rw [if_pos c, if_neg (by omega), if_pos (by omega)]; exact h3 (i + 1) (by omega)
    · have : i = 5 := by omega
      subst this; rw [if_neg c, if_pos rfl, if_neg (by omega), if_neg (by omega), if_pos rfl]; exact h3 0 (by omega)
  · unfold rotQ; rw [if_pos hi]; exact h4 i hi hb
  · unfold rotQ; rw [if_pos hi]; exact h5 i hi hb
  · unfold rotQ; rw [if_neg (by omega), if_pos (by omega)]; exact h6 (i + 1) (by omega)
/-- a state written at a place -/
theorem QR_put {kA : Nat → ClassId} {sl hs : Nat → Option Nat} {tl tl2 : va_W} {kt : Nat} {HH : Nat → Nat → Nat} {HB : Nat → Bool} {LL : Nat → Nat → Nat} {Q : Nat → Option Ent} {a : Nat → Nat} {f g : Nat → Nat → Int32} {V : Nat → Nat} (h : QR kA sl hs tl kt HH HB LL Q) (hk : kt < 6) (hr : relN V f g) (ht : tl2.Perm (stW kA a f (nI (V 0)) g (nI (V 1)) (nI (V 2)) ++ flatQ kA (setQ Q (kt + 2) none))) : QR kA sl (va_up hs kt (some (a 0))) tl2 (kt + 1) (fun i => if i = kt then V else HH i) HB LL (setQ Q (kt + 2) (some (a, f, g, V))) := by
  obtain ⟨h1, h2, h3, h4, h5, h6⟩ := h
  refine ⟨ht.trans (flat_set kA Q (j := kt + 2) (some (a, f, g, V)) (by omega)).symm, fun i hi => ?_, fun i hi => ?_, fun i hi hb => ?_, fun i hi hb => ?_, fun i hi => ?_⟩
  · rw [setQ_n (by omega)]; exact h2 i hi
  · by_cases c : i = kt
    · subst c; rw [va_up_self, setQ_s]; rfl
    · rw [va_up_ne _ _ c, setQ_n (by omega)]; exact h3 i hi
  · rw [setQ_n (by omega)]; exact h4 i hi hb
  · rw [setQ_n (by omega)]; exact h5 i hi hb
  · by_cases c : i = kt
    · subst c; rw [setQ_s]; exact ⟨a, f, g, by simp, by simpa using hr⟩
    · rw [setQ_n (by omega)]
      obtain ⟨a2, f2, g2, e1, e2⟩ := h6 i (by omega)
      exact ⟨a2, f2, g2, by simp only [if_neg c]; exact e1, by simp only [if_neg c]; exact e2⟩
theorem QR_save {kA : Nat → ClassId} {sl hs : Nat → Option Nat} {tl tl2 : va_W} {kt i0 : Nat} {HH : Nat → Nat → Nat} {HB : Nat → Bool} {LL : Nat → Nat → Nat} {Q : Nat → Option Ent} {a : Nat → Nat} {f g : Nat → Nat → Int32} {V : Nat → Nat} (h : QR kA sl hs tl kt HH HB LL Q) (hk : i0 < 2) (hr : relN V f g) (ht : tl2.Perm (stW kA a f (nI (V 0)) g (nI (V 1)) (nI (V 2)) ++ flatQ kA (setQ Q i0 none))) : QR kA (va_up sl i0 (some (a 0))) hs tl2 kt HH (setB HB i0) (setL LL i0 V) (setQ Q i0 (some (a, f, g, V))) := by
  obtain ⟨h1, h2, h3, h4, h5, h6⟩ := h
  refine ⟨ht.trans (flat_set kA Q (j := i0) (some (a, f, g, V)) (by omega)).symm, fun i hi => ?_, fun i hi => ?_, fun i hi hb => ?_, fun i hi hb => ?_, fun i hi => ?_⟩
  · by_cases c : i = i0
    · subst c; rw [va_up_self, setQ_s]; rfl
    · rw [va_up_ne _ _ c, setQ_n c]; exact h2 i hi
  · rw [setQ_n (by omega)]; exact h3 i hi
  · unfold setB at hb
    by_cases c : i = i0
    · rw [if_pos c] at hb; cases hb
    · rw [if_neg c] at hb; rw [setQ_n c]; exact h4 i hi hb
  · unfold setB at hb
    by_cases c : i = i0
    · subst c; rw [setQ_s]; exact ⟨a, f, g, by unfold setL; rw [if_pos rfl], by unfold setL; rw [if_pos rfl]; exact hr⟩
    · rw [if_neg c] at hb; rw [setQ_n c]; unfold setL; rw [if_neg c]; exact h5 i hi hb
  · rw [setQ_n (by omega)]; exact h6 i hi
theorem relT_del {f : Nat → Nat → Int32} {n i : Nat} {T : Nat → Nat → Nat} (h : relT f n T) (hn : n ≤ 25) : relT (delF f i) (n - 1) (delT T i) := by
  intro j hj
  by_cases c : j < i
  · have e : ∀ w, delF f i w j = f w j := fun w => by unfold delF gapF; rw [if_neg (by omega)]
    have e2 : ∀ w, delT T i j w = T j w := fun w => by unfold delT skp; rw [if_pos c]
    rw [e, e, e, e, e, e, e2, e2, e2, e2, e2]; exact h j (by omega)
  · have e : ∀ w, delF f i w j = f w (j + 1) := fun w => by unfold delF gapF; rw [if_pos (by omega)]
    have e2 : ∀ w, delT T i j w = T (j + 1) w := fun w => by unfold delT skp; rw [if_neg c]
    rw [e, e, e, e, e, e, e2, e2, e2, e2, e2]; exact h (j + 1) (by omega)
theorem relT_wav {f : Nat → Nat → Int32} {n l se : Nat} {T : Nat → Nat → Nat} (h : relT f n T) : relT (appF f n l 2 5 6 se) (n + 1) (wavT n T l se) := by
  intro j hj
  rcases Nat.lt_or_ge j n with c | c
  · obtain ⟨h0, h1, h2, h3, h4, h5⟩ := h j c
    rw [wav_old c, wav_old c, wav_old c, wav_old c, wav_old c]
    have q : j ≠ n := by omega
    exact ⟨(upd_n q).trans h0, (upd_n q).trans h1, (upd_n q).trans h2, (upd_n q).trans h3, (upd_n q).trans h4, (upd_n q).trans h5⟩
  · have e : j = n := by omega
    subst e
    obtain ⟨e0, e1, e2, e3, e4⟩ := wav_new (n := j) (T := T) (l := l) (se := se)
    rw [e0, e1, e2, e3, e4]
    exact ⟨upd_s, upd_s, upd_s, upd_s, upd_s, upd_s⟩
theorem relT_cong {f : Nat → Nat → Int32} {n : Nat} {T T2 : Nat → Nat → Nat} (h : relT f n T) (e : ∀ j, j < n → ∀ w, w < 5 → T2 j w = T j w) : relT f n T2 := by
  intro j hj
  rw [e j hj 0 (by omega), e j hj 1 (by omega), e j hj 2 (by omega), e j hj 3 (by omega), e j hj 4 (by omega)]
  exact h j hj
theorem relN_add {V : Nat → Nat} {f g : Nat → Nat → Int32} {l k c d z : Nat} (h : relN V f g) (hV : V 0 < 24) : relN (addV V l k c d z) (appF f (V 0) l k c d z) g := by
  obtain ⟨h1, h2, h3⟩ := h
  have e : ∀ q, 0 < q → (q < 9 ∨ 129 ≤ q) → addV V l k c d z q = V q := by
    intro q h0 hq
    unfold addV
    rw [if_neg (by omega), if_neg (by omega), if_neg (by omega), if_neg (by omega), if_neg (by omega), if_neg (by omega)]
  refine ⟨relT_app h1, fun j hj w hw => ?_, fun k hk => ?_⟩
  · rw [e 1 (by omega) (by omega)] at hj
    rw [e _ (by omega) (by omega)]; exact h2 j hj w hw
  · rw [e _ (by omega) (by omega)]; exact h3 k hk
theorem relN_str {V : Nat → Nat} {f g : Nat → Nat → Int32} {i : Nat} (h : relN V f g) (hi : i < V 0) (hV : V 0 ≤ 24) : relN (strV V i) (delF f i) g := by
  obtain ⟨h1, h2, h3⟩ := h
  have e : ∀ q, 0 < q → (q < 9 ∨ 129 ≤ q) → strV V i q = V q := by
    intro q h0 hq
    unfold strV
    rw [if_neg (by omega), if_neg (by omega), if_neg (by omega)]
  refine ⟨relT_cong (relT_del h1 (by omega)) (fun j hj w hw => str_TV hj hw), fun j hj w hw => ?_, fun k hk => ?_⟩
  · rw [e 1 (by omega) (by omega)] at hj
    rw [e _ (by omega) (by omega)]; exact h2 j hj w hw
  · rw [e _ (by omega) (by omega)]; exact h3 k hk
def setF (f : Nat → Nat → Int32) (w0 : Nat) (v : Nat → Int32) : Nat → Nat → Int32 := fun w => if w = w0 then v else f w
theorem relN_seal {V : Nat → Nat} {f g : Nat → Nat → Int32} {i z : Nat} (h : relN V f g) (hi : i < V 0) (hV : V 0 ≤ 24) : relN (updN V (9 + 5 * i + 4) z) (setF f 4 (upd (f 4) i (nI z))) g := by
  obtain ⟨h1, h2, h3⟩ := h
  have e : ∀ q, q ≠ 9 + 5 * i + 4 → updN V (9 + 5 * i + 4) z q = V q := fun q hq => by unfold updN; rw [if_neg hq]
  refine ⟨?_, fun j hj w hw => ?_, fun k hk => ?_⟩
  · rw [e 0 (by omega)]
    intro j hj
    obtain ⟨g0, g1, g2, g3, g4, g5⟩ := h1 j hj
    unfold TV at *
    refine ⟨by rw [e _ (by omega)]; exact g0, by rw [e _ (by omega)]; exact g1, by rw [e _ (by omega)]; exact g2, by rw [e _ (by omega)]; exact g3, ?_, by rw [e _ (by omega), e _ (by omega)]; exact g5⟩
    show upd (f 4) i (nI z) j = _
    by_cases c : j = i
    · subst c; rw [upd_s]; unfold updN; rw [if_pos rfl]
    · rw [upd_n c, e _ (by omega)]; exact g4
  · rw [e 1 (by omega)] at hj
    rw [e _ (by omega)]; exact h2 j hj w hw
  · rw [e _ (by omega)]; exact h3 k hk
theorem relN_move {V : Nat → Nat} {f g : Nat → Nat → Int32} {i z : Nat} (h : relN V f g) (hi : i < V 0) (hV : V 0 ≤ 24) : relN (updN V (9 + 5 * i + 0) z) (setF f 0 (upd (f 0) i (nI z))) g := by
  obtain ⟨h1, h2, h3⟩ := h
  have e : ∀ q, q ≠ 9 + 5 * i + 0 → updN V (9 + 5 * i + 0) z q = V q := fun q hq => by unfold updN; rw [if_neg hq]
  refine ⟨?_, fun j hj w hw => ?_, fun k hk => ?_⟩
  · rw [e 0 (by omega)]
    intro j hj
    obtain ⟨g0, g1, g2, g3, g4, g5⟩ := h1 j hj
    unfold TV at *
    refine ⟨?_, by rw [e _ (by omega)]; exact g1, by rw [e _ (by omega)]; exact g2, by rw [e _ (by omega)]; exact g3, by rw [e _ (by omega)]; exact g4, by rw [e _ (by omega), e _ (by omega)]; exact g5⟩
    show upd (f 0) i (nI z) j = _
    by_cases c : j = i
    · subst c; rw [upd_s]; unfold updN; rw [if_pos rfl]
    · rw [upd_n c, e _ (by omega)]; exact g0
  · rw [e 1 (by omega)] at hj
    rw [e _ (by omega)]; exact h2 j hj w hw
  · rw [e _ (by omega)]; exact h3 k hk
theorem relT_hi {V : Nat → Nat} {f : Nat → Nat → Int32} {U : Nat → Nat} (h : relT f (V 0) (TV V)) (hV : V 0 ≤ 24) (e : ∀ q, q = 0 ∨ (9 ≤ q ∧ q < 129) → U q = V q) : relT f (U 0) (TV U) := by
  rw [e 0 (by omega)]
  refine relT_cong h (fun j hj w hw => ?_)
  unfold TV; exact e _ (by omega)
theorem relN_join {V : Nat → Nat} {f g : Nat → Nat → Int32} {c r : Nat} (h : relN V f g) (hV : V 0 ≤ 24) (hM : V 1 < 10) : relN (jnV V c r) f (appG g (V 1) c r) := by
  obtain ⟨h1, h2, h3⟩ := h
  have e : ∀ q, q ≠ 1 → ¬ (129 + 4 * V 1 ≤ q ∧ q < 129 + 4 * V 1 + 4) → jnV V c r q = V q := fun q hq hq2 => by
    unfold jnV updN; rw [if_neg (by omega), if_neg (by omega), if_neg (by omega), if_neg (by omega), if_neg hq]
  have e1 : jnV V c r 1 = V 1 + 1 := by
    unfold jnV updN; rw [if_neg (by omega), if_neg (by omega), if_neg (by omega), if_neg (by omega), if_pos rfl]
  refine ⟨relT_hi h1 hV (fun q hq => e q (by omega) (by omega)), fun j hj w hw => ?_, fun k hk => ?_⟩
  · rw [e1] at hj
    by_cases c2 : j = V 1
    · subst c2
      rcases (show w = 0 ∨ w = 1 ∨ w = 2 ∨ w = 3 by omega) with rfl | rfl | rfl | rfl
      · show upd _ _ _ _ = _; rw [upd_s]; unfold jnV updN; simp
      · show upd _ _ _ _ = _; rw [upd_s]; unfold jnV updN; simp
      · show upd _ _ _ _ = _; rw [upd_s]; unfold jnV updN; simp
      · show upd _ _ _ _ = _; rw [upd_s]; unfold jnV updN; simp
    · rw [e _ (by omega) (by omega)]
      have := h2 j (by omega) w hw
      rcases (show w = 0 ∨ w = 1 ∨ w = 2 ∨ w = 3 by omega) with rfl | rfl | rfl | rfl
      · exact (upd_n c2).trans this
      · exact (upd_n c2).trans this
      · exact (upd_n c2).trans this
      · exact (upd_n c2).trans this
  · rw [e _ (by omega) (by omega)]; exact h3 k hk
theorem relN_leave {V : Nat → Nat} {f g : Nat → Nat → Int32} {i : Nat} (h : relN V f g) (hV : V 0 ≤ 24) (hi : i < V 1) (hM : V 1 ≤ 10) : relN (lvV V i) f (delG g i) := by
  obtain ⟨h1, h2, h3⟩ := h
  have e : ∀ q, q ≠ 1 → q < 129 → lvV V i q = V q := fun q hq hq2 => by
    unfold lvV zrG; rw [if_neg hq, if_neg (by omega), if_neg (by omega)]
  refine ⟨relT_hi h1 hV (fun q hq => e q (by omega) (by omega)), fun j hj w hw => ?_, fun k hk => ?_⟩
  · have hj : j < V 1 - 1 := hj
    have e2 : delG g i w j = if i ≤ j ∧ j < 9 then g w (j + 1) else g w j := by unfold delG; rw [if_pos hw]; rfl
    rw [e2]
    have e3 : lvV V i (129 + 4 * j + w) = if 129 + 4 * i ≤ 129 + 4 * j + w ∧ 129 + 4 * j + w < 129 + 4 * (V 1 - 1) then V (129 + 4 * j + w + 4) else V (129 + 4 * j + w) := by
      unfold lvV zrG; rw [if_neg (by omega), if_neg (by omega)]
    rw [e3]
    by_cases c : i ≤ j
    · rw [if_pos (by omega), if_pos (by omega), h2 (j + 1) (by omega) w hw]; congr 2; omega
    · rw [if_neg (by omega), if_neg (by omega)]; exact h2 j (by omega) w hw
  · rw [e _ (by omega) (by omega)]; exact h3 k hk
theorem relN_rank {V : Nat → Nat} {f g : Nat → Nat → Int32} {i z : Nat} (h : relN V f g) (hV : V 0 ≤ 24) : relN (updN V (129 + 4 * i + 1) z) f (setF g 1 (upd (g 1) i (nI z))) := by
  obtain ⟨h1, h2, h3⟩ := h
  have e : ∀ q, q ≠ 129 + 4 * i + 1 → updN V (129 + 4 * i + 1) z q = V q := fun q hq => by unfold updN; rw [if_neg hq]
  refine ⟨relT_hi h1 hV (fun q hq => e q (by omega)), fun j hj w hw => ?_, fun k hk => ?_⟩
  · rw [e 1 (by omega)] at hj
    have := h2 j hj w hw
    unfold setF
    by_cases c : w = 1
    · subst c; rw [if_pos rfl]
      by_cases c2 : j = i
      · subst c2; rw [upd_s]; unfold updN; rw [if_pos rfl]
      · rw [upd_n c2, e _ (by omega)]; exact this
    · rw [if_neg c, e _ (by omega)]; exact this
  · rw [e _ (by omega)]; unfold setF; rw [if_neg (by omega)]; exact h3 k hk
theorem relN_done {V : Nat → Nat} {f g : Nat → Nat → Int32} {i : Nat} {rs : Int32} (h : relN V f g) (hV : V 0 ≤ 24) (hi : i < V 1) (hr : rs = -6) : relN (acV V i rs) f (doneG g i) ∧ acV V i rs 0 = V 0 ∧ acV V i rs 1 = V 1 ∧ nI (acV V i rs 2) = nI (V 2) + nI 1 := by
  rw [← ac_2 hr]
  obtain ⟨h1, h2, h3⟩ := h
  have e : ∀ q, q ≠ 2 → q ≠ 129 + 4 * i + 2 → updN (updN V (129 + 4 * i + 2) (V (129 + 4 * i + 2) + 1)) 2 (updN V (129 + 4 * i + 2) (V (129 + 4 * i + 2) + 1) 2 + 1) q = V q := fun q h1 h2 => by unfold updN; rw [if_neg h1, if_neg h2]
  refine ⟨⟨relT_hi h1 hV (fun q hq => e q (by omega) (by omega)), fun j hj w hw => ?_, fun k hk => ?_⟩, e 0 (by omega) (by omega), e 1 (by omega) (by omega), ?_⟩
  · rw [e 1 (by omega) (by omega)] at hj
    have a := h2 j hj w hw
    by_cases c : w = 2
    · subst c
      show upd (g 2) i (g 2 i + nI 1) j = _
      by_cases c2 : j = i
      · subst c2; rw [upd_s, a]; unfold updN; rw [if_neg (by omega), if_pos rfl]; exact nI_add _ _
      · rw [upd_n c2, e _ (by omega) (by omega)]; exact a
    · rw [e _ (by omega) (by omega), ← a]
      rcases (show w = 0 ∨ w = 1 ∨ w = 3 by omega) with rfl | rfl | rfl <;> rfl
  · rw [e _ (by omega) (by omega)]; exact h3 k hk
  · unfold updN; rw [if_pos rfl, if_neg (by omega)]; exact (nI_add _ _).symm
theorem relN_ref {V : Nat → Nat} {f g : Nat → Nat → Int32} {i q : Nat} (h : relN V f g) (hV : V 0 ≤ 24) (hi : i < V 1) (hq : q < 6) : relN (updN (updN V (129 + 4 * i + 3) (V (129 + 4 * i + 3) + 1)) (3 + q) (updN V (129 + 4 * i + 3) (V (129 + 4 * i + 3) + 1) (3 + q) + 1)) f (refG g i q) := by
  obtain ⟨h1, h2, h3⟩ := h
  have e : ∀ p, p ≠ 3 + q → p ≠ 129 + 4 * i + 3 → updN (updN V (129 + 4 * i + 3) (V (129 + 4 * i + 3) + 1)) (3 + q) (updN V (129 + 4 * i + 3) (V (129 + 4 * i + 3) + 1) (3 + q) + 1) p = V p := fun p h1 h2 => by unfold updN; rw [if_neg h1, if_neg h2]
  refine ⟨relT_hi h1 hV (fun p hp => e p (by omega) (by omega)), fun j hj w hw => ?_, fun k hk => ?_⟩
  · rw [e 1 (by omega) (by omega)] at hj
    have a := h2 j hj w hw
    by_cases c : w = 3
    · subst c
      show upd (g 3) i (g 3 i + nI 1) j = _
      by_cases c2 : j = i
      · subst c2; rw [upd_s, a]; unfold updN; rw [if_neg (by omega), if_pos rfl]; exact nI_add _ _
      · rw [upd_n c2, e _ (by omega) (by omega)]; exact a
    · rw [e _ (by omega) (by omega), ← a]
      rcases (show w = 0 ∨ w = 1 ∨ w = 2 by omega) with rfl | rfl | rfl <;> rfl
  · show upd (g 4) q (g 4 q + nI 1) k = _
    by_cases c2 : k = q
    · subst c2; rw [upd_s, h3 k hk]; unfold updN; rw [if_pos rfl, if_neg (by omega)]; exact nI_add _ _
    · rw [upd_n c2, e _ (by omega) (by omega)]; exact h3 k hk
theorem rd_oth {m : Nat} {P : Nat → Nat} : ∀ (k p : Nat) (V : Nat → Nat), rdK m P k p V 0 ≤ 24 → V 0 ≤ rdK m P k p V 0 ∧ ∀ q, 0 < q → (q < 9 ∨ 129 ≤ q) → rdK m P k p V q = V q
  | 0, _, V, _ => ⟨Nat.le_refl _, fun _ _ _ => rfl⟩
  | k + 1, p, V, h => by
    rw [rdK] at h ⊢
    by_cases c : p < m
    · rw [if_pos c] at h ⊢
      obtain ⟨h1, h2⟩ := rd_oth k _ (addP m P p V) h
      have h1 : V 0 + 1 ≤ _ := h1
      refine ⟨by omega, fun q hq0 hq => ?_⟩
      rw [h2 q hq0 hq]
      unfold addP addV
      rw [if_neg (by omega), if_neg (by omega), if_neg (by omega), if_neg (by omega), if_neg (by omega), if_neg (by omega)]
    · rw [if_neg c]; exact ⟨Nat.le_refl _, fun _ _ _ => rfl⟩
theorem relN_read {V : Nat → Nat} {f f2 g : Nat → Nat → Int32} {m : Nat} {P : Nat → Nat} (h : relN V f g) (h2 : relT f2 (rdK m P 61 0 V 0) (TV (rdK m P 61 0 V))) (h3 : rdK m P 61 0 V 0 ≤ 24) : relN (rdK m P 61 0 V) f2 g := by
  obtain ⟨_, e⟩ := rd_oth 61 0 V h3
  refine ⟨h2, fun j hj w hw => ?_, fun k hk => ?_⟩
  · rw [e 1 (by omega) (by omega)] at hj
    rw [e _ (by omega) (by omega)]; exact h.2.1 j hj w hw
  · rw [e _ (by omega) (by omega)]; exact h.2.2 k hk

section XR
variable {p : Program} {l : Launch} {e : Env} {R : Room} {s : State} {m : MethodId} {args : Array Value} {below : List Frame} {meth : Method} {c : Code} {H : Heap} {locs : List Loc} {cells slots : Nat} {Q : State → Prop}
variable {cc : ByteArray} {pc nL : Nat} {ls : Array Slot} {rest st0 : List Value} {Ts : List Cond} {own : String} {D : va_G} {k : Nat → ClassId} {A : Nat → Prop} {H0 : Heap} {ws : va_W}
theorem xAastR (C : CallFix p m c cc nL s args Ts own) (hN : KN D k s) (hP : va_P D vwCl ws H) (hD : va_D A ws) (hS : va_S A H0 H locs) (q0 : Nat) {a n j : Nat} {f : Nat → Option Nat} {r : Option Nat} (he : ws[q0]? = some (a, .inl (k 3, n, .inr (.inr (.inr (.inr f)))))) (hr : ∀ v, r = some v → ∃ (qk : Nat) (vs : List Value), ws[qk]? = some (v, .inr (3, vs))) (hj : j < n) (hn : n < 2 ^ 31) (hdg : decode cc pc = .ok (.aastore, 1))
    (kk : ∀ (H1 : Heap) (locs1 : List Loc), va_P D vwCl (ws.set q0 (a, .inl (k 3, n, .inr (.inr (.inr (.inr (va_up f j r))))))) H1 → va_D A (ws.set q0 (a, .inl (k 3, n, .inr (.inr (.inr (.inr (va_up f j r))))))) → va_S A H0 H1 locs1 → W p l e R s m args below meth c H1 locs1 cells slots Q (F0 m (pc + 1) ls rest)) : W p l e R s m args below meth c H locs cells slots Q (F0 m pc ls (va_rf r :: .int (nI j) :: .ref a :: rest)) := by
  cases r with
  | none => exact xAastN C hN hP hD hS q0 he hj hn hdg kk
  | some v =>
    obtain ⟨qk, vs, hv⟩ := hr v rfl
    exact xAast C hN hP hD hS q0 qk he hv hj hn hdg kk
abbrev xQq (D : va_G) (A : Nat → Prop) (post : Option Nat → va_W → Prop) : Array Value → State → Outcome → State → Prop := va_Qq post (xB D A) A
theorem xWWq {post : Option Nat → va_W → Prop} {a : Array Value} {mc ms : Nat} (hS : va_S A H0 H locs)
    (hr : va_Run p l e R s m args below meth c H locs cells slots mc ms (F0 m pc ls st0) rest (xQq D A post a) A)
    (kk : ∀ (r : Option Nat) (u : va_W) (H1 : Heap) (locs1 : List Loc), post r u → va_P D vwCl u H1 → va_D A u → va_S A H0 H1 locs1 → W p l e R s m args below meth c H1 locs1 (cells + mc) (slots + ms) Q (F0 m (pc + 3) ls (va_rf r :: rest))) : W p l e R s m args below meth c H locs cells slots Q (F0 m pc ls st0) := by
  refine va_callq hr hS (fun q _ h => h) (fun _ h => h) (fun r u t H1 locs1 ht _ hw hB _ hk1 hS1 => ?_)
  obtain ⟨hP1, hD1⟩ := hB
  rw [ht] at hP1
  exact kk r u H1 locs1 hw hP1 hD1 hS1
theorem xRetQ {v : Nat} {n : String} {post : Option Nat → va_W → Prop} (hx : p.tables.exec = Jvm.exec) (hb : c.code = cc) (hr : meth.sig.returnType = some (.object n)) (hq : post (some v) ws) (hP : va_P D vwCl ws H) (hD : va_D A ws) (hS : va_S A s.heap H locs) (hdg : decode cc pc = .ok (.areturn, 1)) (hlocks : meth.locks = false) : W p l e R s m args below meth c H locs cells slots (MQ below (xQq D A post) args s cells slots A) (F0 m pc ls [.ref v]) :=
  W.aret hx hb hr (Or.inl ⟨_, rfl⟩) (Or.inr ⟨v, rfl⟩) (fun t ht _ => ⟨⟨some v, ws, rfl, hq, by rw [ht]; exact hP, hD⟩, hS.F ht⟩) hS.2.2 hdg hlocks
end XR
theorem pm_new (L tl n : va_W) : (L ++ tl ++ n).Perm (L ++ n ++ tl) := by
  rw [List.append_assoc, List.append_assoc]
  exact List.Perm.append_left L List.perm_append_comm
def dropH (hs : Nat → Option Nat) (k : Nat) : Nat → Option Nat := fun i => if i < k then hs (i + 1) else hs i
theorem dropH_0 (hs : Nat → Option Nat) : dropH hs 0 = hs := by funext i; unfold dropH; rw [if_neg (Nat.not_lt_zero i)]
theorem dropH_hi (hs : Nat → Option Nat) (k : Nat) : dropH hs k (k + 1) = hs (k + 1) := by unfold dropH; rw [if_neg (by omega)]
theorem dropH_s (hs : Nat → Option Nat) (k : Nat) : va_up (dropH hs k) k (hs (k + 1)) = dropH hs (k + 1) := by
  funext i; unfold va_up dropH
  by_cases c : i = k
  · subst c; rw [if_pos rfl, if_pos (by omega)]
  · rw [if_neg c]
    by_cases d : i < k
    · rw [if_pos d, if_pos (by omega)]
    · rw [if_neg d, if_neg (by omega)]
theorem dropH_e (hs : Nat → Option Nat) : va_up (dropH hs 5) 5 (hs 0) = rotH hs := by
  funext i; unfold va_up dropH rotH
  by_cases c : i = 5
  · subst c; rw [if_pos rfl, if_neg (by omega), if_pos rfl]
  · rw [if_neg c]
    by_cases d : i < 5
    · rw [if_pos d, if_pos d]
    · rw [if_neg d, if_neg d, if_neg c]
theorem pn_lt {kt : Nat} (h : kt < 6) : pushN kt = kt + 1 := by unfold pushN; rw [if_neg (by omega)]
theorem ph_lt {HH : Nat → Nat → Nat} {kt : Nat} {V : Nat → Nat} (h : kt < 6) : pushH HH kt V = fun i => if i = kt then V else HH i := by
  funext i; unfold pushH; rw [if_neg (by omega)]
theorem pn_6 {kt : Nat} (h : kt = 6) : pushN kt = 5 + 1 := by unfold pushN; rw [if_pos h]
theorem ph_6 {HH : Nat → Nat → Nat} {kt : Nat} {V : Nat → Nat} (h : kt = 6) : pushH HH kt V = fun i => if i = 5 then V else HH (i + 1) := by
  funext i; unfold pushH; rw [if_pos h]
theorem Int32_ashr {n k : Nat} (hn : n < 2 ^ 30) (hk : k < 31) : nI n >>> (nI k &&& 31) = nI (n / 2 ^ k) := by
  apply Int32.toBitVec_inj.mp
  have e1 : (nI k &&& 31 : Int32).toBitVec = BitVec.ofNat 32 k := by
    have : ∀ k, k < 31 → (nI k &&& 31 : Int32).toBitVec = BitVec.ofNat 32 k := by decide +kernel
    exact this k hk
  have e2 : ∀ k, k < 31 → (BitVec.ofNat 32 k).smod 32 = BitVec.ofNat 32 k := by decide +kernel
  show (BitVec.ofNat 32 n).sshiftRight' ((nI k &&& 31 : Int32).toBitVec.smod 32) = BitVec.ofNat 32 (n / 2 ^ k)
  rw [e1, e2 k hk]
  rw [BitVec.sshiftRight_eq', BitVec.sshiftRight_eq_of_msb_false]
  · apply BitVec.eq_of_toNat_eq
    simp only [BitVec.toNat_ushiftRight, BitVec.toNat_ofNat]
    rw [Nat.mod_eq_of_lt (show n < 2 ^ 32 by omega), Nat.mod_eq_of_lt (show k < 2 ^ 32 by omega), Nat.shiftRight_eq_div_pow, Nat.mod_eq_of_lt (Nat.lt_of_le_of_lt (Nat.div_le_self _ _) (by omega))]
  · rw [BitVec.msb_eq_false_iff_two_mul_lt, BitVec.toNat_ofNat, Nat.mod_eq_of_lt (by omega)]; omega
theorem mask_sh {p : Nat → Bool} {c : Nat} (hc : c < 5) : (mk p >>> (nI (c * 6) &&& 31)) &&& nI 63 = nI (maskN 6 (fun d => p (6 * c + d))) := by
  unfold mk
  rw [Int32_ashr (maskN_lt p 30) (by omega), nI_and]
  congr 1
  apply Nat.eq_of_testBit_eq
  intro i
  rw [Nat.testBit_and, maskN_bit, Nat.testBit_div_two_pow, maskN_bit, show (63 : Nat) = 2 ^ 6 - 1 from rfl, Nat.testBit_two_pow_sub_one, Nat.mul_comm c 6]
  by_cases h : i < 6
  · simp only [h, decide_true, Bool.true_and, Bool.and_true, show i + 6 * c < 30 by omega, show 6 * c + i < 30 by omega, Nat.add_comm]
  · simp [h]
