/-! shapes only grow; a run of the small machine is one of the great one -/
def am_Gr (good : am_S → Prop) (S : am_S) (F : am_K → am_Q → Prop) : Prop := ∀ (K : am_K) (Q : am_Q), F K Q → (∀ pc L st S M, K pc L st S M → good S) → (∀ r, Q r → good r.2.1) → good S
theorem am_gr_K {good : am_S → Prop} {pc : Nat} {L st : List am_V} {S : am_S} {M : am_M} : am_Gr good S (fun K _ => K pc L st S M) := fun _ _ h h1 _ => h1 _ _ _ _ _ h
theorem am_gr_N {good : am_S → Prop} (hd : ∀ S x, good (S ++ [x]) → good S) {pc : Nat} {L st : List am_V} {S : am_S} {M : am_M} {x : Nat × Nat × Nat} : am_Gr good S (fun K _ => K pc L st (S ++ [x]) M) := fun _ _ h h1 _ => hd _ _ (h1 _ _ _ _ _ h)
theorem am_gr_Q {good : am_S → Prop} {v : Option am_V} {S : am_S} {M : am_M} : am_Gr good S (fun _ Q => Q (v, S, M)) := fun _ _ h _ h2 => h2 _ h
theorem am_gr_F {good : am_S → Prop} {S : am_S} : am_Gr good S (fun _ _ => False) := fun _ _ h => h.elim
theorem am_gr_and {good : am_S → Prop} {S : am_S} {p : Prop} {F : am_K → am_Q → Prop} (hF : am_Gr good S F) : am_Gr good S (fun K Q => p ∧ F K Q) := fun K Q h h1 h2 => hF K Q h.2 h1 h2
theorem am_gr_if {good : am_S → Prop} {S : am_S} {p : Prop} {F G : am_K → am_Q → Prop} (hF : am_Gr good S F) (hG : am_Gr good S G) : am_Gr good S (fun K Q => am_if p (F K Q) (G K Q)) := by
  intro K Q h h1 h2
  by_cases hp : p
  · exact hF K Q (h.1 hp) h1 h2
  · exact hG K Q (h.2 hp) h1 h2
theorem am_gr_ex {good : am_S → Prop} {S : am_S} {o : Option Nat} {f : Nat → am_K → am_Q → Prop} (hf : ∀ n, am_Gr good S (f n)) : am_Gr good S (fun K Q => ∃ n : Nat, o = some n ∧ f n K Q) := fun K Q ⟨n, _, h⟩ h1 h2 => hf n K Q h h1 h2
def am_Gc (good : am_S → Prop) (cal : am_L) : Prop := ∀ mid vs S M (Q : am_Q), cal mid vs S M Q → (∀ r, Q r → good r.2.1) → good S
theorem am_gr_call {good : am_S → Prop} {cal : am_L} (hc : am_Gc good cal) {mid n nx : Nat} {L st : List am_V} {S : am_S} {M : am_M} : am_Gr good S (fun K _ => am_call cal mid n nx L st S M K) := by
  intro K Q h h1 h2
  unfold am_call at h
  split at h
  · refine hc _ _ _ _ _ h fun r hr => ?_
    obtain ⟨v, S', M'⟩ := r
    cases v with
    | none => exact h1 _ _ _ _ _ hr
    | some v => exact h1 _ _ _ _ _ hr
  · exact h.elim
theorem am_gr_step {good : am_S → Prop} (hd : ∀ S x, good (S ++ [x]) → good S) {P : am_P} {own ret : Nat} {cal : am_L} (hc : am_Gc good cal) (i : Instr) (pc nx : Nat) (L st : List am_V) (S : am_S) (M : am_M) : am_Gr good S (fun K Q => am_step P own ret cal i pc nx L st S M K Q) := by
  cases i
  all_goals (unfold am_step; dsimp only)
  all_goals (repeat' (first
    | exact am_gr_F
    | exact am_gr_K
    | exact am_gr_N hd
    | exact am_gr_Q
    | exact am_gr_call hc
    | refine am_gr_and ?_
    | refine am_gr_ex fun _ => ?_
    | refine am_gr_if ?_ ?_
    | split
    | unfold am_ld0
    | unfold am_ld1
    | unfold am_ld2
    | unfold am_bin
    | unfold am_binl
    | unfold am_un
    | unfold am_put
    | unfold am_ext))
theorem am_wp_gr {good : am_S → Prop} (hd : ∀ S x, good (S ++ [x]) → good S) {P : am_P} {own ret : Nat} {c : am_C} {cal : am_L} (hc : am_Gc good cal) {Q : am_Q} (hQ : ∀ r, Q r → good r.2.1) : ∀ (n pc : Nat) (L st : List am_V) (S : am_S) (M : am_M), am_wp P own ret c cal n pc L st S M Q → good S := by
  intro n
  induction n with
  | zero => intro pc L st S M h; exact h.elim
  | succ n ih =>
    intro pc L st S M h
    unfold am_wp at h
    split at h
    · exact am_gr_step hd hc _ _ _ _ _ _ _ _ _ h (fun _ _ _ _ _ h1 => ih _ _ _ _ _ h1) hQ
    · exact h.elim
theorem am_cal_gr {good : am_S → Prop} (hd : ∀ S x, good (S ++ [x]) → good S) (P : am_P) : ∀ d, am_Gc good (am_cal P d)
  | 0 => fun _ _ _ _ _ h => h.elim
  | d + 1 => by
    intro mid vs S M Q h hQ
    unfold am_cal at h
    split at h
    · obtain ⟨-, r, ⟨n, h⟩, hr⟩ := h
      exact am_wp_gr hd (am_cal_gr hd P d) (fun r' e => by rw [e]; exact hQ r hr) n _ _ _ _ _ h
    · exact h.elim
theorem am_good_down (a b : Nat) : ∀ (S : am_S) (x : Nat × Nat × Nat), ((S ++ [x]).length ≤ a ∧ am_sz (S ++ [x]) ≤ b) → (S.length ≤ a ∧ am_sz S ≤ b) := by
  intro S x h
  rw [List.length_append, am_sz_app] at h
  exact ⟨by omega, by omega⟩
section AMW
variable {P : am_P} {D : va_G} {cl : List vw_C} {A : Nat → Prop} {sa : Int → Nat} {sc : Int → Int → Int} {a0 : List Nat} {own ret nL c0 s0 mc ms : Nat} {p : Program} {l : Launch} {e : Env} {R : Room} {s : State} {m : MethodId} {args : Array Value} {below : List Frame} {meth : Method} {c : Code} {cc : ByteArray} {Ts : List Cond} {oc : String} {code : am_C} {d : Nat} {Qc : Array Value → State → Outcome → State → Prop} {rf : am_R}
theorem am_wp_at (X : am_Cx P D cl A sa sc a0 own ret nL c0 s0 mc ms p l e R s m args below meth c cc Ts oc code (am_cal P d) Qc rf) : ∀ (n pc : Nat) (L st : List am_V) (S : am_S) (M : am_M), am_wp P own ret code (am_cal P d) n pc L st S M (fun r => r = rf) → am_At P D cl A sa sc a0 nL c0 s0 p l e R s m args below meth c (MQ below Qc args s mc ms A) pc L st S M := by
  have hdec := X.2.2.2.2.2.2.2.2.1
  have hroom := X.2.2.2.2.2.2.2.2.2.2.2.2.2.1
  intro n
  induction n with
  | zero => intro pc L st S M h; exact h.elim
  | succ n ih =>
    intro pc L st S M h
    unfold am_wp at h
    split at h
    · rename_i len i hat
      obtain ⟨hd, hk⟩ := hdec _ _ _ hat
      refine am_snd X (am_Cc_cal P d) hd hk (am_step_mono (am_Cc_cal P d) h (fun pc' L' st' S' M' h1 => ⟨?_, ih _ _ _ _ _ h1⟩) (fun _ h1 => h1))
      exact am_wp_gr (good := fun S => S.length ≤ mc + c0 ∧ am_sz S ≤ ms + s0) (am_good_down _ _) (am_cal_gr (am_good_down _ _) P d) (fun r hr => by rw [hr]; exact ⟨Nat.le_of_eq hroom.2.1.symm, Nat.le_of_eq hroom.2.2.symm⟩) n _ _ _ _ _ h1
    · exact h.elim
end AMW
