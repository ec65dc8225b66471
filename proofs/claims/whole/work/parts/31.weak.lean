/-! locals that nobody reads any more may be forgotten -/
def am_le : List am_V → List am_V → Prop
  | [], [] => True
  | u :: l, v :: m => (u = (3, 0) ∨ u = v) ∧ am_le l m
  | _, _ => False
theorem am_le_get : ∀ {W L : List am_V} (_ : am_le W L) (k : Nat), (∀ v, W[k]? = some v → v.1 ≠ 3 → L[k]? = some v)
  | [], [], _, k => fun v h => by simp at h
  | u :: l, v :: m, h, 0 => fun w hw h3 => by
    simp only [List.getElem?_cons_zero, Option.some.injEq] at hw ⊢
    subst hw
    rcases h.1 with q | q
    · rw [q] at h3; exact absurd rfl h3
    · exact q.symm
  | u :: l, v :: m, h, k + 1 => fun w hw h3 => by
    rw [List.getElem?_cons_succ] at hw ⊢
    exact am_le_get h.2 k w hw h3
  | [], _ :: _, h, _ => h.elim
  | _ :: _, [], h, _ => h.elim
theorem am_le_len : ∀ {W L : List am_V} (_ : am_le W L), W.length = L.length
  | [], [], _ => rfl
  | _ :: l, _ :: m, h => by simp only [List.length_cons]; rw [am_le_len h.2]
  | [], _ :: _, h => h.elim
  | _ :: _, [], h => h.elim
theorem am_le_set : ∀ {W L : List am_V} (_ : am_le W L) (k : Nat) (v : am_V), am_le (W.set k v) (L.set k v)
  | [], [], h, _, _ => h
  | u :: l, w :: m, h, 0, v => ⟨Or.inr rfl, h.2⟩
  | u :: l, w :: m, h, k + 1, v => ⟨h.1, am_le_set h.2 k v⟩
  | [], _ :: _, h, _, _ => h.elim
  | _ :: _, [], h, _, _ => h.elim
theorem am_le_uns : ∀ {W L : List am_V} (_ : am_le W L) (k : Nat), (∀ v, W[k]? = some v → v.1 = 3 → v = (3, 0)) → am_le (W.set k (3, 0)) L
  | [], [], h, _, _ => h
  | u :: l, w :: m, h, 0, _ => ⟨Or.inl rfl, h.2⟩
  | u :: l, w :: m, h, k + 1, hv => ⟨h.1, am_le_uns h.2 k (fun v q => hv v (by rw [List.getElem?_cons_succ]; exact q))⟩
  | [], _ :: _, h, _, _ => h.elim
  | _ :: _, [], h, _, _ => h.elim
theorem am_le_uns' : ∀ {W L : List am_V} (_ : am_le W L) (k : Nat), am_le (W.set k (3, 0)) (L.set k (3, 0)) := fun h k => am_le_set h k _
theorem am_le_kill {W L : List am_V} (h : am_le W L) (k : Nat) : am_le (am_kill W k) (am_kill L k) ∨ am_le W (am_kill L k) := by
  unfold am_kill
  cases k with
  | zero => exact Or.inl h
  | succ k =>
    dsimp only
    split
    · rename_i y hy
      rw [am_le_get h k _ hy (by simp)]
      exact Or.inl (am_le_set h k _)
    · rename_i hn
      split
      · rename_i y hy
        refine Or.inr ?_
        -- what W has there is unset
        have hW : W = W.set k (3, 0) := by
          apply List.ext_getElem?
          intro j
          rw [List.getElem?_set]
          split
          · rename_i hj
            subst hj
            have hl := (List.getElem?_eq_some_iff.mp hy).1
            rw [← am_le_len h] at hl
            rw [if_pos hl]
            have e1 : W[k]? = some W[k] := List.getElem?_eq_getElem hl
            rw [e1]
            congr 1
            have : ∀ {W L : List am_V} (_ : am_le W L) (k : Nat) (u v : am_V), W[k]? = some u → L[k]? = some v → u = (3, 0) ∨ u = v := by
              intro W
              induction W with
              | nil => intro L hh k u v hu; simp at hu
              | cons a l ih =>
                intro L hh k u v hu hv
                cases L with
                | nil => exact hh.elim
                | cons b m =>
                  cases k with
                  | zero =>
                    simp only [List.getElem?_cons_zero, Option.some.injEq] at hu hv
                    subst hu; subst hv
                    exact hh.1
                  | succ k =>
                    rw [List.getElem?_cons_succ] at hu hv
                    exact ih hh.2 k u v hu hv
            rcases this h k _ _ e1 hy with q | q
            · exact q
            · exact absurd (by rw [e1, q]) (hn y)
          · rfl
        rw [hW]
        exact am_le_set h k _
      · exact Or.inl h
theorem am_le_st {W L : List am_V} (h : am_le W L) (k : Nat) (v : am_V) : am_le (am_st W k v) (am_st L k v) := by
  unfold am_st
  rcases am_le_kill h k with q | q
  · exact am_le_set q k v
  · have e : am_le (am_kill W k) (am_kill L k) := by
      unfold am_kill at q ⊢
      cases k with
      | zero => exact q
      | succ k =>
        dsimp only at q ⊢
        split
        · rename_i y hy
          rw [am_le_get h k _ hy (by simp)]
          exact am_le_set h k _
        · exact q
    exact am_le_set e k v
theorem am_le_st2 {W L : List am_V} (h : am_le W L) (k : Nat) (v : am_V) : am_le (am_st2 W k v) (am_st2 L k v) := am_le_set (am_le_st h k v) _ _
theorem am_call_L {cal : am_L} {mid n nx : Nat} {L W st : List am_V} {S : am_S} {M : am_M} {K : am_K} : am_call cal mid n nx L st S M K = am_call cal mid n nx W st S M (fun pc _ st S M => K pc L st S M) := by
  unfold am_call
  have e : am_back K nx L (st.drop n) = am_back (fun pc _ st S M => K pc L st S M) nx W (st.drop n) := by
    funext r
    obtain ⟨v, S, M⟩ := r
    cases v <;> rfl
  rw [e]
theorem am_step_le {P : am_P} {own ret : Nat} {cal : am_L} (hc : am_Cc cal) {i : Instr} {pc nx : Nat} {W L st : List am_V} {S : am_S} {M : am_M} {K K' : am_K} {Q : am_Q} (h : am_step P own ret cal i pc nx W st S M K Q) (hle : am_le W L) (hK : ∀ pc W' st S M, K pc W' st S M → ∀ L', am_le W' L' → K' pc L' st S M) : am_step P own ret cal i pc nx L st S M K' Q := by
  have go : (am_step P own ret cal i pc nx W st S M K Q = am_step P own ret cal i pc nx W st S M (fun pc _ st S M => K pc W st S M) Q) → (am_step P own ret cal i pc nx L st S M K' Q = am_step P own ret cal i pc nx W st S M (fun pc _ st S M => K' pc L st S M) Q) → am_step P own ret cal i pc nx L st S M K' Q := by
    intro e1 e2
    rw [e2]
    rw [e1] at h
    exact am_step_mono hc h (fun pc _ st S M h1 => hK pc W st S M h1 L hle) (fun _ h1 => h1)
  cases i
  case iload_n k =>
    unfold am_step am_ld0 at h ⊢
    dsimp only at h ⊢
    split at h
    · rename_i x hx; rw [am_le_get hle _ _ hx (by simp)]; exact hK _ _ _ _ _ h _ hle
    · exact h.elim
  case iload k =>
    unfold am_step am_ld0 at h ⊢
    dsimp only at h ⊢
    split at h
    · rename_i x hx; rw [am_le_get hle _ _ hx (by simp)]; exact hK _ _ _ _ _ h _ hle
    · exact h.elim
  case lload_n k =>
    unfold am_step am_ld1 at h ⊢
    dsimp only at h ⊢
    split at h
    · rename_i x hx; rw [am_le_get hle _ _ hx (by simp)]; exact hK _ _ _ _ _ h _ hle
    · exact h.elim
  case lload k =>
    unfold am_step am_ld1 at h ⊢
    dsimp only at h ⊢
    split at h
    · rename_i x hx; rw [am_le_get hle _ _ hx (by simp)]; exact hK _ _ _ _ _ h _ hle
    · exact h.elim
  case aload_n k =>
    unfold am_step am_ld2 at h ⊢
    dsimp only at h ⊢
    split at h
    · rename_i x hx; rw [am_le_get hle _ _ hx (by simp)]; exact hK _ _ _ _ _ h _ hle
    · exact h.elim
  case aload k =>
    unfold am_step am_ld2 at h ⊢
    dsimp only at h ⊢
    split at h
    · rename_i x hx; rw [am_le_get hle _ _ hx (by simp)]; exact hK _ _ _ _ _ h _ hle
    · exact h.elim
  case iinc k n =>
    unfold am_step am_ld0 at h ⊢
    dsimp only at h ⊢
    split at h
    · rename_i x hx; rw [am_le_get hle _ _ hx (by simp)]; exact hK _ _ _ _ _ h _ (am_le_st hle _ _)
    · exact h.elim
  case istore_n k =>
    unfold am_step at h ⊢
    dsimp only at h ⊢
    split at h
    · exact hK _ _ _ _ _ h _ (am_le_st hle _ _)
    · exact h.elim
  case istore k =>
    unfold am_step at h ⊢
    dsimp only at h ⊢
    split at h
    · exact hK _ _ _ _ _ h _ (am_le_st hle _ _)
    · exact h.elim
  case astore_n k =>
    unfold am_step at h ⊢
    dsimp only at h ⊢
    split at h
    · exact hK _ _ _ _ _ h _ (am_le_st hle _ _)
    · exact h.elim
  case astore k =>
    unfold am_step at h ⊢
    dsimp only at h ⊢
    split at h
    · exact hK _ _ _ _ _ h _ (am_le_st hle _ _)
    · exact h.elim
  case lstore_n k =>
    unfold am_step at h ⊢
    dsimp only at h ⊢
    split at h
    · exact hK _ _ _ _ _ h _ (am_le_st2 hle _ _)
    · exact h.elim
  case lstore k =>
    unfold am_step at h ⊢
    dsimp only at h ⊢
    split at h
    · exact hK _ _ _ _ _ h _ (am_le_st2 hle _ _)
    · exact h.elim
  case invokevirtual k =>
    refine go ?_ ?_
    · unfold am_step; dsimp only; simp only [am_call_L (L := W) (W := W) (K := K)]
    · unfold am_step; dsimp only; simp only [am_call_L (L := L) (W := W) (K := K')]
  case invokestatic k =>
    refine go ?_ ?_
    · unfold am_step; dsimp only; simp only [am_call_L (L := W) (W := W) (K := K)]
    · unfold am_step; dsimp only; simp only [am_call_L (L := L) (W := W) (K := K')]
  case invokespecial k =>
    refine go ?_ ?_
    · unfold am_step; dsimp only; simp only [am_call_L (L := W) (W := W) (K := K)]
    · unfold am_step; dsimp only; simp only [am_call_L (L := L) (W := W) (K := K')]
  all_goals exact go rfl rfl
theorem am_wp_le {P : am_P} {own ret : Nat} {c : am_C} {cal : am_L} (hc : am_Cc cal) {Q : am_Q} : ∀ (n pc : Nat) (W st : List am_V) (S : am_S) (M : am_M), am_wp P own ret c cal n pc W st S M Q → ∀ L, am_le W L → am_wp P own ret c cal n pc L st S M Q := by
  intro n
  induction n with
  | zero => intro pc W st S M h; exact h.elim
  | succ n ih =>
    intro pc W st S M h L hle
    unfold am_wp at h ⊢
    split at h
    · exact am_step_le hc h hle (fun pc W' st S M h1 L' hle' => ih _ _ _ _ _ h1 L' hle')
    · exact h.elim
theorem am_weak {own ret d : Nat} {c : am_C} {Q : am_Q} {pc : Nat} {W L st : List am_V} {S : am_S} {M : am_M} (hle : am_le W L) (h : am_g own ret c d Q pc W st S M) : am_g own ret c d Q pc L st S M := by
  obtain ⟨n, h⟩ := h
  exact ⟨n, am_wp_le (am_Cc_cal pg d) n _ _ _ _ _ h L hle⟩
theorem x_top0 {own ret d : Nat} {c : am_C} {Q : am_Q} {pc : Nat} {L st : List am_V} {S : am_S} {M : am_M} {x y : Int} (e : x = y) (h : am_g own ret c d Q pc L ((0, y) :: st) S M) : am_g own ret c d Q pc L ((0, x) :: st) S M := by subst e; exact h
theorem x_top1 {own ret d : Nat} {c : am_C} {Q : am_Q} {pc : Nat} {L st : List am_V} {S : am_S} {M : am_M} {x y : Int} (e : x = y) (h : am_g own ret c d Q pc L ((1, y) :: st) S M) : am_g own ret c d Q pc L ((1, x) :: st) S M := by subst e; exact h
theorem x_top2 {own ret d : Nat} {c : am_C} {Q : am_Q} {pc : Nat} {L st : List am_V} {S : am_S} {M : am_M} {x y : Int} (e : x = y) (h : am_g own ret c d Q pc L ((2, y) :: st) S M) : am_g own ret c d Q pc L ((2, x) :: st) S M := by subst e; exact h
theorem lk {v : am_V} {l m : List am_V} (h : am_le l m) : am_le (v :: l) (v :: m) := ⟨Or.inr rfl, h⟩
theorem ld {v : am_V} {l m : List am_V} (h : am_le l m) : am_le ((3, 0) :: l) (v :: m) := ⟨Or.inl rfl, h⟩
theorem ln : am_le [] [] := trivial
