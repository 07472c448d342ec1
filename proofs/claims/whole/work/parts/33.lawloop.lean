/-! THE CLAIM OUT OF ONE WALK OF THE LAW'S BODY. Your part is whole_start (and what it stands on); all else here is the same for every law, but numbers. -/
def R_law : String := "LayeredChartersLaw"
def lw_P (b : Addr) (xs : List Int32) (args : Array Value) (s : State) : Prop := args = #[.ref b] ∧ s.IntsAt b xs ∧ xs.length ≤ 3072 ∧ (Jvm.Cond.and given_1 narrow_1).before args s = true
def lw_Q (_ : Array Value) (s : State) (o : Outcome) (t : State) : Prop := o = .returned (some (.int 1)) ∧ Framed s o t [] 600000 7302250
def lw_Z (below : List Frame) (a : Array Value) (s : State) : State → Prop := fun t => ∃ o, t.status = .running ∧ Ended t below o ∧ lw_Q a s o t
/-- the law's own end, with 1 on the stack, nothing written that was there before, its room as the claim has it -/
theorem lw_ret {p : Program} {l : Launch} {e : Env} {s : State} {m : MethodId} {below : List Frame} {meth : Method} {c : Code} {b : Nat} (hx : p.tables.exec = Jvm.exec) (hb : c.code = code) (hr : meth.sig.returnType = ret) (hlocks : meth.locks = false) {pc : Nat} {H : Heap} {ls : Array Slot} (hdg : decode code pc = .ok (.ireturn, 1)) : W p l e room_1 s m #[Value.ref b] below meth c H [] 600000 7302250 (lw_Z below #[Value.ref b] s) (F0 m pc ls [.int 1]) := by
  intro T hT X
  obtain ⟨fs, hret, hrun, hended, hW, hframe⟩ := X.leave (v := some (.int 1)) (hlocks := hlocks) (fun h => by rw [hr] at h; cases h)
  have hmeth' : T.vm.method? m = some meth := X.method'
  refine ⟨T.setFrames fs, ?_, .returned (some (.int 1)), hrun, hended, rfl, ⟨_, rfl⟩, hW, hframe⟩
  jvm_step X.here [X.here.top, hx, hb, hdg, hmeth', hr, ret, narrow_b1]
  (try refine ⟨rfl, ?_⟩); (try refine ⟨rfl, ?_⟩)
  first | (intro acts; rw [hret _ acts rfl rfl rfl]) | rw [hret _ _ rfl rfl rfl]
  exact Steps.refl _
/-- what holds at the law's entry: the machine, the code, the tables' words (any of lw_tbl by 'hts w (by decide +kernel)'), the script of L ints xs at the cell b, what the Statement gives of the start (any of its parts by flat_of_before) -/
def lw_At (p : Program) (s : State) (m : MethodId) (meth : Method) (c : Code) (b L : Nat) (xs : Nat → Int32) : Prop :=
  p.tables.exec = Jvm.exec ∧ c.code = code ∧ meth.sig.returnType = ret ∧ c.maxLocals = 4 ∧ s.vm.findClass R_law = some m.cls ∧ (∀ w ∈ lw_tbl, w.before #[Value.ref b] s = true) ∧ va_X b L xs s s.heap ∧ b < s.heap.size ∧ meth.locks = false ∧ (Jvm.Cond.and given_1 narrow_1).before #[Value.ref b] s = true
theorem sub6 {L : Nat} (hL : L ≤ 3072) : (nI L - nI 6 : Int32).toInt = (L : Int) - 6 := by
  rcases Nat.lt_or_ge L 6 with c | c
  · have : ∀ L, L < 6 → (nI L - nI 6 : Int32).toInt = (L : Int) - 6 := by decide +kernel
    exact this L c
  · rw [pk_sub c, nI_toInt (by omega)]; omega
theorem gt6 {L i : Nat} (hL : L ≤ 3072) (hi : i < 2 ^ 31) (h : nI L - nI 6 < nI i) : L < i + 6 := by
  rw [Int32.lt_iff_toInt_lt, sub6 hL, nI_toInt hi] at h; omega
theorem ng6 {L i : Nat} (hL : L ≤ 3072) (hi : i < 2 ^ 31) (h : ¬ nI L - nI 6 < nI i) : i + 5 < L := by
  rw [Int32.lt_iff_toInt_lt, sub6 hL, nI_toInt hi] at h; omega
set_option maxHeartbeats 4000000 in
set_option maxRecDepth 100000 in
theorem law_loop {p : Program} {l : Launch} {e : Env} {s : State} {m : MethodId} {below : List Frame} {meth : Method} {c : Code} {D : va_G} {kA : Nat → ClassId} {b L : Nat} {xs : Nat → Int32} {ox os ob ot a : Nat → Nat} (hL : L ≤ 3072) (C0 : lw_At p s m meth c b L xs) (hN : KN D kA s) : ∀ (n t cells slots : Nat) (S : Sig) (u1 u2 : va_W) (H : Heap) (locs : List Loc) (ls : Array Slot), 6 * t ≤ L → L < 6 * t + 6 * n → cells ≤ 40 + 14 * t → slots ≤ 2100 + 212 * t → InvS S → ClsR kA ox os ob ot S u1 → ModR kA a S u2 → va_P D vwCl (u1 ++ u2) H → va_D (fun q : Nat => s.heap.size ≤ q) (u1 ++ u2) → va_S (fun q : Nat => s.heap.size ≤ q) s.heap H locs → lv_has ls 4 [(3, .int (nI (6 * t))), (0, .ref b), (1, .ref (ox 0)), (2, .ref (a 0))] → W p l e room_1 s m #[Value.ref b] below meth c H locs cells slots (lw_Z below #[Value.ref b] s) (F0 m 18 ls []) := by
  obtain ⟨hx, hb, hr, hml, hown, hts, hX, hbl, hlocks, hgv⟩ := C0
  have C : CallFix p m c cL_law 4 s #[Value.ref b] wsL_law RL := ⟨hx, hb, hml, hown, fun w hw => hts w (wsL_law_in w hw)⟩
  have hA : ∀ q : Nat, s.heap.size ≤ q → (fun q : Nat => s.heap.size ≤ q) q := fun _ h => h
  have hbA : ¬ (fun q : Nat => s.heap.size ≤ q) b := Nat.not_le.mpr hbl
  intro n
  induction n with
  | zero => intro t cells slots S u1 u2 H locs ls ht hn; exact absurd hn (by omega)
  | succ n ih =>
    intro t cells slots S u1 u2 H locs ls ht hn hcl hsl hI h1 h2 hP hD hS hl
    refine lv_iload_n hx hb dL_law_18 rfl (lv_at hl 0 rfl) ?_
    refine lv_aload_n hx hb dL_law_19 rfl (lv_at hl 1 rfl) ?_
    refine va_slen hx hb hX hbl hbA hS dL_law_20 ?_
    refine lv_bipush (v := nI 6) hx hb dL_law_21 (by decide) ?_
    refine lv_isub hx hb dL_law_23 ?_
    refine lv_icmp_gt (tgt := 869) hx hb dL_law_24 (by decide) (fun h24 => ?_) (fun h24 => ?_)
    · have hend : L < 6 * t + 6 := gt6 hL (by omega) h24
      refine lv_iconst (v := 1) hx hb dL_law_869 (by decide) ?_
      refine va_forget (fun q hq => hS.2.2 q hq) ?_
      refine W.widen (k := 600000) (n := 7302250) (by omega) (by omega) ?_
      exact lw_ret hx hb hr hlocks dL_law_870
    · have hi : 6 * t + 5 < L := ng6 hL (by omega) h24
      refine lv_aload_n hx hb dL_law_27 rfl (lv_at hl 1 rfl) ?_
      refine lv_iload_n hx hb dL_law_28 rfl (lv_at hl 0 rfl) ?_
      refine xSld C hX hbl hbA hS (show 6 * t < L by omega) (by omega) dL_law_29 ?_
      refine lv_bipush (v := nI 31) hx hb dL_law_30 (by decide) ?_
      refine lv_iand hx hb dL_law_32 ?_
      have kk : ∀ (S2 : Sig) (v1 v2 : va_W) (H1 : Heap) (locs1 : List Loc), InvS S2 → ClsR kA ox os ob ot S2 v1 → ModR kA a S2 v2 → va_P D vwCl (v1 ++ v2) H1 → va_D (fun q : Nat => s.heap.size ≤ q) (v1 ++ v2) → va_S (fun q : Nat => s.heap.size ≤ q) s.heap H1 locs1 → W p l e room_1 s m #[Value.ref b] below meth c H1 locs1 (cells + 14) (slots + 212) (lw_Z below #[Value.ref b] s) (F0 m 863 ls []) := by
        intro S2 v1 v2 H1 locs1 hI2 g1 g2 hP1 hD1 hS1
        refine xIinc C (kx := 0) (d := 6) (lv' := [(3, .int (nI (6 * t + 6))), (0, .ref b), (1, .ref (ox 0)), (2, .ref (a 0))]) dL_law_863 hl rfl (by decide) (by decide) rfl (fun ls hl => ?_)
        refine lv_goto (tgt := 18) hx hb dL_law_866 (by decide) ?_
        exact ih (t + 1) _ _ S2 v1 v2 H1 locs1 ls (by omega) (by omega) (by omega) (by omega) hI2 g1 g2 hP1 hD1 hS1 hl
      rcases xTab (x := xs (6 * t) &&& nI 31) 0 25 (by decide) with h33 | ⟨j, hj, ej⟩
      · refine lv_tableOut (tgt := 863) hx hb dL_law_33 (by omega) (by decide) ?_
        refine W.widen (k := cells + 14) (n := slots + 212) (by omega) (by omega) ?_
        exact kk S u1 u2 H locs hI h1 h2 hP hD hS
      · rcases (show j = 0 ∨ j = 1 ∨ j = 2 ∨ j = 3 ∨ j = 4 ∨ j = 5 ∨ j = 6 ∨ j = 7 ∨ j = 8 ∨ j = 9 ∨ j = 10 ∨ j = 11 ∨ j = 12 ∨ j = 13 ∨ j = 14 ∨ j = 15 ∨ j = 16 ∨ j = 17 ∨ j = 18 ∨ j = 19 ∨ j = 20 ∨ j = 21 ∨ j = 22 ∨ j = 23 ∨ j = 24 by omega) with rfl | rfl | rfl | rfl | rfl | rfl | rfl | rfl | rfl | rfl | rfl | rfl | rfl | rfl | rfl | rfl | rfl | rfl | rfl | rfl | rfl | rfl | rfl | rfl | rfl
        · refine xTabIn C (j := 0) (tgt := 148) ej dL_law_33 (by decide) (by decide) rfl (by decide) ?_
          exact law_add C hN hX hbl hi hL hI h1 h2 hP hD hS hl (by omega) (by omega) kk
        · refine xTabIn C (j := 1) (tgt := 211) ej dL_law_33 (by decide) (by decide) rfl (by decide) ?_
          exact law_strike C hN hX hbl hi hL hI h1 h2 hP hD hS hl (by omega) (by omega) kk
        · refine xTabIn C (j := 2) (tgt := 234) ej dL_law_33 (by decide) (by decide) rfl (by decide) ?_
          exact law_seal C hN hX hbl hi hL hI h1 h2 hP hD hS hl (by omega) (by omega) kk
        · refine xTabIn C (j := 3) (tgt := 267) ej dL_law_33 (by decide) (by decide) rfl (by decide) ?_
          exact law_move C hN hX hbl hi hL hI h1 h2 hP hD hS hl (by omega) (by omega) kk
        · refine xTabIn C (j := 4) (tgt := 300) ej dL_law_33 (by decide) (by decide) rfl (by decide) ?_
          exact law_read C hN hX hbl hi hL hI h1 h2 hP hD hS hl (by omega) (by omega) kk
        · refine xTabIn C (j := 5) (tgt := 313) ej dL_law_33 (by decide) (by decide) rfl (by decide) ?_
          exact law_tidy C hN hX hbl hi hL hI h1 h2 hP hD hS hl (by omega) (by omega) kk
        · refine xTabIn C (j := 6) (tgt := 326) ej dL_law_33 (by decide) (by decide) rfl (by decide) ?_
          exact law_join C hN hX hbl hi hL hI h1 h2 hP hD hS hl (by omega) (by omega) kk
        · refine xTabIn C (j := 7) (tgt := 359) ej dL_law_33 (by decide) (by decide) rfl (by decide) ?_
          exact law_leave C hN hX hbl hi hL hI h1 h2 hP hD hS hl (by omega) (by omega) kk
        · refine xTabIn C (j := 8) (tgt := 382) ej dL_law_33 (by decide) (by decide) rfl (by decide) ?_
          exact law_rank C hN hX hbl hi hL hI h1 h2 hP hD hS hl (by omega) (by omega) kk
        · refine xTabIn C (j := 9) (tgt := 415) ej dL_law_33 (by decide) (by decide) rfl (by decide) ?_
          exact law_act C hN hX hbl hi hL hI h1 h2 hP hD hS hl (by omega) (by omega) kk
        · refine xTabIn C (j := 10) (tgt := 448) ej dL_law_33 (by decide) (by decide) rfl (by decide) ?_
          exact law_rule C hN hX hbl hi hL hI h1 h2 hP hD hS hl (by omega) (by omega) kk
        · refine xTabIn C (j := 11) (tgt := 481) ej dL_law_33 (by decide) (by decide) rfl (by decide) ?_
          exact law_member C hN hX hbl hi hL hI h1 h2 hP hD hS hl (by omega) (by omega) kk
        · refine xTabIn C (j := 12) (tgt := 514) ej dL_law_33 (by decide) (by decide) rfl (by decide) ?_
          exact law_allowed C hN hX hbl hi hL hI h1 h2 hP hD hS hl (by omega) (by omega) kk
        · refine xTabIn C (j := 13) (tgt := 567) ej dL_law_33 (by decide) (by decide) rfl (by decide) ?_
          exact law_why C hN hX hbl hi hL hI h1 h2 hP hD hS hl (by omega) (by omega) kk
        · refine xTabIn C (j := 14) (tgt := 610) ej dL_law_33 (by decide) (by decide) rfl (by decide) ?_
          exact law_count C hN hX hbl hi hL hI h1 h2 hP hD hS hl (by omega) (by omega) kk
        · refine xTabIn C (j := 15) (tgt := 633) ej dL_law_33 (by decide) (by decide) rfl (by decide) ?_
          exact law_leastRank C hN hX hbl hi hL hI h1 h2 hP hD hS hl (by omega) (by omega) kk
        · refine xTabIn C (j := 16) (tgt := 666) ej dL_law_33 (by decide) (by decide) rfl (by decide) ?_
          exact law_ifStruck C hN hX hbl hi hL hI h1 h2 hP hD hS hl (by omega) (by omega) kk
        · refine xTabIn C (j := 17) (tgt := 689) ej dL_law_33 (by decide) (by decide) rfl (by decide) ?_
          exact law_worstBan C hN hX hbl hi hL hI h1 h2 hP hD hS hl (by omega) (by omega) kk
        · refine xTabIn C (j := 18) (tgt := 702) ej dL_law_33 (by decide) (by decide) rfl (by decide) ?_
          exact law_bestWaiver C hN hX hbl hi hL hI h1 h2 hP hD hS hl (by omega) (by omega) kk
        · refine xTabIn C (j := 19) (tgt := 725) ej dL_law_33 (by decide) (by decide) rfl (by decide) ?_
          exact law_put C hN hX hbl hi hL hI h1 h2 hP hD hS hl (by omega) (by omega) kk
        · refine xTabIn C (j := 20) (tgt := 778) ej dL_law_33 (by decide) (by decide) rfl (by decide) ?_
          exact law_wipe C hN hX hbl hi hL hI h1 h2 hP hD hS hl (by omega) (by omega) kk
        · refine xTabIn C (j := 21) (tgt := 791) ej dL_law_33 (by decide) (by decide) rfl (by decide) ?_
          exact law_fault C hN hX hbl hi hL hI h1 h2 hP hD hS hl (by omega) (by omega) kk
        · refine xTabIn C (j := 22) (tgt := 804) ej dL_law_33 (by decide) (by decide) rfl (by decide) ?_
          exact law_undo C hN hX hbl hi hL hI h1 h2 hP hD hS hl (by omega) (by omega) kk
        · refine xTabIn C (j := 23) (tgt := 817) ej dL_law_33 (by decide) (by decide) rfl (by decide) ?_
          exact law_save C hN hX hbl hi hL hI h1 h2 hP hD hS hl (by omega) (by omega) kk
        · refine xTabIn C (j := 24) (tgt := 840) ej dL_law_33 (by decide) (by decide) rfl (by decide) ?_
          exact law_restore C hN hX hbl hi hL hI h1 h2 hP hD hS hl (by omega) (by omega) kk
