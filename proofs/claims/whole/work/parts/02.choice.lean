/-! a step has one way to go: it comes to one place, or it ends with one answer -/
def am_Ch (F : am_K → am_Q → Prop) : Prop := ∀ (K : am_K) (Q : am_Q), F K Q → (∃ pc L st S M, K pc L st S M ∧ ∀ (K' : am_K) (Q' : am_Q), K' pc L st S M → F K' Q') ∨ (∃ r, Q r ∧ ∀ (K' : am_K) (Q' : am_Q), Q' r → F K' Q')
theorem am_ch_if {c : Prop} {F G : am_K → am_Q → Prop} (hF : am_Ch F) (hG : am_Ch G) : am_Ch (fun K Q => am_if c (F K Q) (G K Q)) := by
  intro K Q h
  by_cases hc : c
  · rcases hF K Q (h.1 hc) with ⟨pc, L, st, S, M, h1, h2⟩ | ⟨r, h1, h2⟩
    · exact Or.inl ⟨pc, L, st, S, M, h1, fun K' Q' h3 => ⟨fun _ => h2 K' Q' h3, fun n => absurd hc n⟩⟩
    · exact Or.inr ⟨r, h1, fun K' Q' h3 => ⟨fun _ => h2 K' Q' h3, fun n => absurd hc n⟩⟩
  · rcases hG K Q (h.2 hc) with ⟨pc, L, st, S, M, h1, h2⟩ | ⟨r, h1, h2⟩
    · exact Or.inl ⟨pc, L, st, S, M, h1, fun K' Q' h3 => ⟨fun n => absurd n hc, fun _ => h2 K' Q' h3⟩⟩
    · exact Or.inr ⟨r, h1, fun K' Q' h3 => ⟨fun n => absurd n hc, fun _ => h2 K' Q' h3⟩⟩
theorem am_ch_K {pc : Nat} {L st : List am_V} {S : am_S} {M : am_M} : am_Ch (fun K _ => K pc L st S M) := fun _ _ h => Or.inl ⟨pc, L, st, S, M, h, fun _ _ h => h⟩
theorem am_ch_Q {r : am_R} : am_Ch (fun _ Q => Q r) := fun _ _ h => Or.inr ⟨r, h, fun _ _ h => h⟩
theorem am_ch_F : am_Ch (fun _ _ => False) := fun _ _ h => h.elim
theorem am_ch_and {p : Prop} {F : am_K → am_Q → Prop} (hF : am_Ch F) : am_Ch (fun K Q => p ∧ F K Q) := by
  intro K Q h
  rcases hF K Q h.2 with ⟨pc, L, st, S, M, h1, h2⟩ | ⟨r, h1, h2⟩
  · exact Or.inl ⟨pc, L, st, S, M, h1, fun K' Q' h3 => ⟨h.1, h2 K' Q' h3⟩⟩
  · exact Or.inr ⟨r, h1, fun K' Q' h3 => ⟨h.1, h2 K' Q' h3⟩⟩
def am_Cc (cal : am_L) : Prop := ∀ mid vs S M (Q : am_Q), cal mid vs S M Q → ∃ r, Q r ∧ ∀ Q' : am_Q, Q' r → cal mid vs S M Q'
theorem am_ch_call {cal : am_L} (hc : am_Cc cal) {mid n nx : Nat} {L st : List am_V} {S : am_S} {M : am_M} : am_Ch (fun K _ => am_call cal mid n nx L st S M K) := by
  intro K Q h
  unfold am_call at h ⊢
  split at h
  · rename_i hb
    obtain ⟨⟨v, S', M'⟩, h4, h5⟩ := hc _ _ _ _ _ h
    cases v with
    | none => exact Or.inl ⟨nx, L, st.drop n, S', M', h4, fun K' Q' h6 => h5 _ h6⟩
    | some v => exact Or.inl ⟨nx, L, v :: st.drop n, S', M', h4, fun K' Q' h6 => h5 _ h6⟩
  · exact h.elim
theorem am_ch_ld0 {k : Nat} {L : List am_V} {f : Int → am_K → am_Q → Prop} (hf : ∀ v, am_Ch (f v)) : am_Ch (fun K Q => am_ld0 L k fun v => f v K Q) := by
  unfold am_ld0
  split
  · exact hf _
  · exact am_ch_F
theorem am_ch_ld1 {k : Nat} {L : List am_V} {f : Int → am_K → am_Q → Prop} (hf : ∀ v, am_Ch (f v)) : am_Ch (fun K Q => am_ld1 L k fun v => f v K Q) := by
  unfold am_ld1
  split
  · exact hf _
  · exact am_ch_F
theorem am_ch_ld2 {k : Nat} {L : List am_V} {f : Int → am_K → am_Q → Prop} (hf : ∀ v, am_Ch (f v)) : am_Ch (fun K Q => am_ld2 L k fun v => f v K Q) := by
  unfold am_ld2
  split
  · exact hf _
  · exact am_ch_F
theorem am_ch_put {t : Nat} {v : am_V} {f : Int → am_K → am_Q → Prop} (hf : ∀ x, am_Ch (f x)) : am_Ch (fun K Q => am_put t v fun x => f x K Q) := by
  unfold am_put
  split
  · exact hf _
  · exact hf _
  · exact hf _
  · exact am_ch_and (hf _)
  · exact am_ch_F
theorem am_ch_ext {P : am_P} {kd : Nat} {st : List am_V} {S : am_S} {M : am_M} {f : List am_V → am_M → am_K → am_Q → Prop} (hf : ∀ st M, am_Ch (f st M)) : am_Ch (fun K Q => am_ext P kd st S M fun st M => f st M K Q) := by
  unfold am_ext
  split
  · exact am_ch_and (hf _ _)
  · exact am_ch_and (hf _ _)
  · exact am_ch_and (hf _ _)
  · exact am_ch_F
theorem am_ch_len {o : Option Nat} {f : Nat → am_K → am_Q → Prop} (hf : ∀ n, am_Ch (f n)) : am_Ch (fun K Q => ∃ n : Nat, o = some n ∧ f n K Q) := by
  intro K Q h
  obtain ⟨n, h0, h⟩ := h
  rcases hf n K Q h with ⟨pc, L, st, S, M, h1, h2⟩ | ⟨r, h1, h2⟩
  · exact Or.inl ⟨pc, L, st, S, M, h1, fun K' Q' h3 => ⟨n, h0, h2 K' Q' h3⟩⟩
  · exact Or.inr ⟨r, h1, fun K' Q' h3 => ⟨n, h0, h2 K' Q' h3⟩⟩
theorem am_ch_bin {st : List am_V} {f : Int → Int → List am_V → am_K → am_Q → Prop} (hf : ∀ x y t, am_Ch (f x y t)) : am_Ch (fun K Q => am_bin st fun x y t => f x y t K Q) := by
  unfold am_bin
  split
  · exact hf _ _ _
  · exact am_ch_F
theorem am_ch_binl {st : List am_V} {f : Int → Int → List am_V → am_K → am_Q → Prop} (hf : ∀ x y t, am_Ch (f x y t)) : am_Ch (fun K Q => am_binl st fun x y t => f x y t K Q) := by
  unfold am_binl
  split
  · exact hf _ _ _
  · exact am_ch_F
theorem am_ch_un {st : List am_V} {f : Int → List am_V → am_K → am_Q → Prop} (hf : ∀ x t, am_Ch (f x t)) : am_Ch (fun K Q => am_un st fun x t => f x t K Q) := by
  unfold am_un
  split
  · exact hf _ _
  · exact am_ch_F
theorem am_ch_step {P : am_P} {own ret : Nat} {cal : am_L} (hc : am_Cc cal) (i : Instr) (pc nx : Nat) (L st : List am_V) (S : am_S) (M : am_M) : am_Ch (fun K Q => am_step P own ret cal i pc nx L st S M K Q) := by
  cases i
  all_goals (unfold am_step; dsimp only)
  all_goals (repeat' (first
    | exact am_ch_F
    | exact am_ch_K
    | exact am_ch_Q
    | exact am_ch_call hc
    | refine am_ch_and ?_
    | refine am_ch_ld0 fun _ => ?_
    | refine am_ch_ld1 fun _ => ?_
    | refine am_ch_ld2 fun _ => ?_
    | refine am_ch_put fun _ => ?_
    | refine am_ch_len fun _ => ?_
    | refine am_ch_ext fun _ _ => ?_
    | refine am_ch_bin fun _ _ _ => ?_
    | refine am_ch_binl fun _ _ _ => ?_
    | refine am_ch_un fun _ _ => ?_
    | refine am_ch_if ?_ ?_
    | split))
theorem am_step_mono {P : am_P} {own ret : Nat} {cal : am_L} (hc : am_Cc cal) {i : Instr} {pc nx : Nat} {L st : List am_V} {S : am_S} {M : am_M} {K K' : am_K} {Q Q' : am_Q} (h : am_step P own ret cal i pc nx L st S M K Q) (hK : ∀ pc L st S M, K pc L st S M → K' pc L st S M) (hQ : ∀ r, Q r → Q' r) : am_step P own ret cal i pc nx L st S M K' Q' := by
  rcases am_ch_step hc i pc nx L st S M K Q h with ⟨_, _, _, _, _, h1, h2⟩ | ⟨_, h1, h2⟩
  · exact h2 _ _ (hK _ _ _ _ _ h1)
  · exact h2 _ _ (hQ _ h1)
theorem am_wp_mono {P : am_P} {own ret : Nat} {c : am_C} {cal : am_L} (hc : am_Cc cal) {Q Q' : am_Q} (hQ : ∀ r, Q r → Q' r) : ∀ (n pc : Nat) (L st : List am_V) (S : am_S) (M : am_M), am_wp P own ret c cal n pc L st S M Q → ∀ n', n ≤ n' → am_wp P own ret c cal n' pc L st S M Q' := by
  intro n
  induction n with
  | zero => intro pc L st S M h; exact h.elim
  | succ n ih =>
    intro pc L st S M h n' hn
    obtain ⟨k, rfl⟩ : ∃ k, n' = k + 1 := ⟨n' - 1, by omega⟩
    unfold am_wp at h ⊢
    cases ha : am_at c pc with
    | none => rw [ha] at h; exact h.elim
    | some x =>
      obtain ⟨len, i⟩ := x
      rw [ha] at h
      exact am_step_mono hc h (fun _ _ _ _ _ h1 => ih _ _ _ _ _ h1 k (by omega)) hQ
theorem am_wp_ch {P : am_P} {own ret : Nat} {c : am_C} {cal : am_L} (hc : am_Cc cal) {Q : am_Q} : ∀ (n pc : Nat) (L st : List am_V) (S : am_S) (M : am_M), am_wp P own ret c cal n pc L st S M Q → ∃ r, Q r ∧ am_wp P own ret c cal n pc L st S M (fun r' => r' = r) := by
  intro n
  induction n with
  | zero => intro pc L st S M h; exact h.elim
  | succ n ih =>
    intro pc L st S M h
    unfold am_wp at h ⊢
    cases ha : am_at c pc with
    | none => rw [ha] at h; exact h.elim
    | some x =>
      obtain ⟨len, i⟩ := x
      rw [ha] at h
      rcases am_ch_step hc i pc (pc + len) L st S M _ _ h with ⟨_, _, _, _, _, h1, h2⟩ | ⟨r, h1, h2⟩
      · obtain ⟨r, h3, h4⟩ := ih _ _ _ _ _ h1
        exact ⟨r, h3, h2 _ _ h4⟩
      · exact ⟨r, h1, h2 _ _ rfl⟩
theorem am_Cc_cal (P : am_P) : ∀ d, am_Cc (am_cal P d)
  | 0 => fun _ _ _ _ _ h => h.elim
  | d + 1 => by
    intro mid vs S M Q h
    unfold am_cal at h ⊢
    cases hm : P.2.1 mid with
    | none => rw [hm] at h; exact h.elim
    | some x =>
      obtain ⟨own, n, ret, mx, c⟩ := x
      rw [hm] at h
      obtain ⟨h0, r, h1, h2⟩ := h
      exact ⟨r, h2, fun Q' h3 => ⟨h0, r, h1, h3⟩⟩
/-- one row of a walk: the next -/
theorem am_W_step {P : am_P} {own ret : Nat} {c : am_C} {cal : am_L} (hc : am_Cc cal) {Q : am_Q} {pc len : Nat} {i : Instr} {L st : List am_V} {S : am_S} {M : am_M} (ha : am_at c pc = some (len, i)) (h : am_step P own ret cal i pc (pc + len) L st S M (am_W P own ret c cal Q) Q) : am_W P own ret c cal Q pc L st S M := by
  rcases am_ch_step hc i pc (pc + len) L st S M _ _ h with ⟨_, _, _, _, _, ⟨n, h1⟩, h2⟩ | ⟨r, h1, h2⟩
  · refine ⟨n + 1, ?_⟩
    unfold am_wp
    rw [ha]
    exact h2 _ _ h1
  · refine ⟨1, ?_⟩
    unfold am_wp
    rw [ha]
    exact h2 _ _ h1
theorem am_cal_of {P : am_P} {d mid : Nat} {own n ret mx : Nat} {c : am_C} {vs : List am_V} {S : am_S} {M : am_M} {Q : am_Q} (hm : P.2.1 mid = some (own, n, ret, mx, c)) (hn : vs.length = n) (hn2 : (am_args vs).length ≤ mx) (h : am_W P own ret c (am_cal P d) Q 0 (am_init mx vs) [] S M) : am_cal P (d + 1) mid vs S M Q := by
  obtain ⟨k, h⟩ := h
  obtain ⟨r, h1, h2⟩ := am_wp_ch (am_Cc_cal P d) k _ _ _ _ _ h
  unfold am_cal
  rw [hm]
  exact ⟨⟨hn, hn2⟩, r, ⟨k, h2⟩, h1⟩
