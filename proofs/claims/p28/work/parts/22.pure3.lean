theorem xCellD {A : Nat → Prop} {ws : va_W} {p a n : Nat} {cA : ClassId} {f g : Nat → Int32} (hD : va_D A ws) (he : ws[p]? = some (a, .inl (cA, n, .inl f))) : va_D A (ws.set p (a, .inl (cA, n, .inl g))) := by
  have hl := (List.getElem?_eq_some_iff.mp he).1
  have key : ∀ (i : Nat) (q : Nat × va_E), (ws.set p (a, .inl (cA, n, .inl g)))[i]? = some q → ∃ q', ws[i]? = some q' ∧ q'.1 = q.1 := by
    intro i q h
    by_cases e : p = i
    · subst e
      rw [List.getElem?_set_self hl] at h
      cases h
      exact ⟨_, he, rfl⟩
    · rw [List.getElem?_set_ne e] at h
      exact ⟨q, h, rfl⟩
  refine ⟨fun i j x y hx hy hxy => ?_, fun k q h => ?_⟩
  · obtain ⟨x', h1, e1⟩ := key i x hx
    obtain ⟨y', h2, e2⟩ := key j y hy
    exact hD.1 i j x' y' h1 h2 (by rw [e1, e2, hxy])
  · obtain ⟨q', h1, e1⟩ := key k q h
    rw [← e1]; exact hD.2 k q' h1
theorem sg8_le (p : Nat → Bool) : cntN 8 p ≤ 8 := by
  have : cntN 8 p ≤ 8 * 1 := sumN_le (fun j _ => by split <;> omega)
  omega
theorem sg8_0 (X : Nat) : ¬ cntN 8 (fun j => !endB X j) = 0 := by
  have := cntN_split 1 (fun j => !endB X j) 7
  have e : cntN 1 (fun j => !endB X j) = 1 := rfl
  rw [e] at this
  intro q
  rw [show (8 : Nat) = 1 + 7 from rfl, this] at q
  omega
