/-! the code is what the bytes say (printed) -/
def am_ckc (bs : ByteArray) (mx : Nat) (c : am_C) : Bool := c.all fun q => decide (decode bs q.1 = .ok (q.2.2, q.2.1)) && am_okI mx q.1 q.2.2 q.2.1
theorem am_at_mem : ∀ {c : am_C} {pc : Nat} {x : Nat × Instr}, am_at c pc = some x → (pc, x) ∈ c
  | [], _, _, h => by cases h
  | (k, y) :: l, pc, x, h => by
    unfold am_at at h
    rw [List.lookup_cons] at h
    by_cases q : pc = k
    · subst q
      simp at h
      subst h
      exact List.mem_cons_self
    · have : (pc == k) = false := by simp [q]
      rw [this] at h
      exact List.mem_cons_of_mem _ (am_at_mem h)
theorem am_ckc_ok {bs : ByteArray} {mx : Nat} {c : am_C} (h : am_ckc bs mx c = true) : ∀ pc len i, am_at c pc = some (len, i) → decode bs pc = .ok (i, len) ∧ am_okI mx pc i len = true := by
  intro pc len i hat
  have h1 := List.all_eq_true.mp h _ (am_at_mem hat)
  simp only [Bool.and_eq_true, decide_eq_true_eq] at h1
  exact h1
theorem am_ckc_cut {bs : ByteArray} {mx : Nat} {c : am_C} (n : Nat) (h1 : am_ckc bs mx (c.take n) = true) (h2 : am_ckc bs mx (c.drop n) = true) : am_ckc bs mx c = true := by
  unfold am_ckc at *
  rw [← List.take_append_drop n c, List.all_append, h1, h2]; rfl
