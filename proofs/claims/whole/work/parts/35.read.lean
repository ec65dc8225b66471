/-! the reference's reader: its smallest pieces -/
def am_b (p : Prop) [Decidable p] : Int := if p then 1 else 0
theorem am_b_1 {p : Prop} [Decidable p] (h : p) : am_b p = 1 := if_pos h
theorem am_b_0 {p : Prop} [Decidable p] (h : ¬ p) : am_b p = 0 := if_neg h
theorem am_b_z {p : Prop} [Decidable p] : am_b p = 0 ↔ ¬ p := by unfold am_b; split <;> simp_all
theorem am_b_01 {p : Prop} [Decidable p] : am_b p = 0 ∨ am_b p = 1 := by unfold am_b; split <;> simp
theorem am_c0_i {S : am_S} {f : Int → am_M → Prop} {x : Int} {M : am_M} (h : f x M) : am_c0 S f (some (0, x), S, M) := ⟨rfl, h⟩
theorem am_c1_i {S : am_S} {f : Int → am_M → Prop} {x : Int} {M : am_M} (h : f x M) : am_c1 S f (some (1, x), S, M) := ⟨rfl, h⟩
theorem am_c2_i {S : am_S} {f : Int → am_M → Prop} {x : Int} {M : am_M} (h : f x M) : am_c2 S f (some (2, x), S, M) := ⟨rfl, h⟩
theorem am_cv_i {S : am_S} {f : am_M → Prop} {M : am_M} (h : f M) : am_cv S f (none, S, M) := ⟨rfl, h⟩
theorem am_up_up {M : am_M} {a k v w : Int} : am_up (am_up M a k v) a k w = am_up M a k w := by
  funext b j
  unfold am_up
  split <;> rfl
theorem am_up_id {M : am_M} {a k : Int} : am_up M a k (M a k) = M := by
  funext b j
  unfold am_up
  split
  · rename_i q; rw [q.1, q.2]
  · rfl
theorem am_up_at {M : am_M} {a k v : Int} : am_up M a k v a k = v := if_pos ⟨rfl, rfl⟩
theorem am_up_sw {M : am_M} {a k v b j w : Int} (h : ¬ (b = a ∧ j = k)) : am_up (am_up M a k v) b j w = am_up (am_up M b j w) a k v := by
  funext x y
  unfold am_up
  split <;> split <;> first | rfl | (exfalso; rename_i q1 q2; exact h ⟨q1.1.symm.trans q2.1, q1.2.symm.trans q2.2⟩)
/-- the first place from i on, below e, where no blank lies -/
def rd_skip (t : Int → Int) (e : Int) : Nat → Int → Int
  | 0, i => i
  | n + 1, i => if i < e ∧ (t i = 10 ∨ t i = 32) then rd_skip t e n (i + 1) else i
abbrev rd_at (t : Int → Int) (e i : Int) : Int := rd_skip t e (e - i).toNat i
abbrev rd_see (t : Int → Int) (e i : Int) : Int := if rd_at t e i < e then t (rd_at t e i) else -1
theorem rd_at_stop {t : Int → Int} {e i : Int} (h : ¬ (i < e ∧ (t i = 10 ∨ t i = 32))) : rd_at t e i = i := by
  unfold rd_at
  cases (e - i).toNat with
  | zero => rfl
  | succ n => exact if_neg h
theorem rd_at_go {t : Int → Int} {e i : Int} (h : i < e ∧ (t i = 10 ∨ t i = 32)) : rd_at t e i = rd_at t e (i + 1) := by
  unfold rd_at
  have e1 : (e - i).toNat = (e - (i + 1)).toNat + 1 := by have := h.1; omega
  rw [e1]
  show (if i < e ∧ (t i = 10 ∨ t i = 32) then _ else i) = _
  rw [if_pos h]
theorem rd_at_le {t : Int → Int} {e : Int} : ∀ (n : Nat) (i : Int), i ≤ rd_skip t e n i ∧ (rd_skip t e n i ≤ e ∨ rd_skip t e n i = i)
  | 0, i => ⟨Int.le_refl _, Or.inr rfl⟩
  | n + 1, i => by
    unfold rd_skip
    split
    · rename_i q
      obtain ⟨h1, h2⟩ := rd_at_le (t := t) (e := e) n (i + 1)
      constructor
      · omega
      · rcases h2 with h2 | h2
        · exact Or.inl h2
        · left; omega
    · exact ⟨Int.le_refl _, Or.inr rfl⟩
theorem sp_isIn {d : Nat} {M : am_M} {f : Int → am_M → Prop} {x y z : Int} (h : f (am_b (y ≤ x ∧ x ≤ z)) M) : am_cal pg (d + 1) 169 [(1, x), (1, y), (1, z)] sh_T M (am_c0 sh_T f) :=
  en_X12_isIn (bk_X12_isIn_0 ⟨fun c => am_c0_i (by rw [am_b_0 (by omega)] at h; exact h), fun c => ⟨fun c2 => am_c0_i (by rw [am_b_0 (by omega)] at h; exact h), fun c2 => am_c0_i (by rw [am_b_1 (by omega)] at h; exact h)⟩⟩)
theorem sp_isLetter {d : Nat} {M : am_M} {f : Int → am_M → Prop} {x : Int} (h : f (am_b (97 ≤ x ∧ x ≤ 122)) M) : am_cal pg (d + 1) 173 [(0, x)] sh_T M (am_c0 sh_T f) :=
  en_X12_isLetter (bk_X12_isLetter_0 ⟨fun c => am_c0_i (by rw [am_b_0 (by omega)] at h; exact h), fun c => ⟨fun c2 => am_c0_i (by rw [am_b_0 (by omega)] at h; exact h), fun c2 => am_c0_i (by rw [am_b_1 (by omega)] at h; exact h)⟩⟩)
theorem sp_isDigit {d : Nat} {M : am_M} {f : Int → am_M → Prop} {x : Int} (h : f (am_b (48 ≤ x ∧ x ≤ 57)) M) : am_cal pg (d + 1) 174 [(0, x)] sh_T M (am_c0 sh_T f) :=
  en_X12_isDigit (bk_X12_isDigit_0 ⟨fun c => am_c0_i (by rw [am_b_0 (by omega)] at h; exact h), fun c => ⟨fun c2 => am_c0_i (by rw [am_b_0 (by omega)] at h; exact h), fun c2 => am_c0_i (by rw [am_b_1 (by omega)] at h; exact h)⟩⟩)
theorem sp_fail {d : Nat} {M : am_M} {f : am_M → Prop} {x y : Int} (h : f (if M 152 5 = 0 then am_up (am_up M 152 5 x) 152 6 y else M)) : am_cal pg (d + 1) 172 [(2, 152), (0, x), (0, y)] sh_T M (am_cv sh_T f) :=
  en_X12_fail (bk_X12_fail_0 ⟨fun c => am_cv_i (by rw [if_pos c] at h; exact h), fun c => am_cv_i (by rw [if_neg c] at h; exact h)⟩)
theorem sp_look_g {d : Nat} {f : Int → am_M → Prop} : ∀ (n : Nat) (M : am_M), (M 152 3 - M 152 2).toNat = n → 0 ≤ M 152 2 → M 152 3 ≤ 1600 → f (rd_see (M 153) (M 152 3) (M 152 2)) (am_up M 152 2 (rd_at (M 153) (M 152 3) (M 152 2))) → am_g 12 0 co_X12_look d (am_c0 sh_T f) 0 [(2, 152)] [] sh_T M := by
  intro n
  induction n with
  | zero =>
    intro M hn h0 h1 h
    have e1 : rd_at (M 153) (M 152 3) (M 152 2) = M 152 2 := rd_at_stop (by omega)
    unfold rd_see at h
    rw [e1, am_up_id, if_neg (by omega)] at h
    exact bk_X12_look_0 ⟨fun _ => am_c0_i h, fun c => by omega⟩
  | succ n ih =>
    intro M hn h0 h1 h
    have go : (M 153 (M 152 2) = 10 ∨ M 153 (M 152 2) = 32) → am_g 12 0 co_X12_look d (am_c0 sh_T f) 0 [(2, 152)] [] sh_T (am_up M 152 2 (M 152 2 + 1)) := by
      intro c
      refine ih _ ?_ ?_ ?_ ?_
      · show (M 152 3 - (M 152 2 + 1)).toNat = n; omega
      · show 0 ≤ M 152 2 + 1; omega
      · exact h1
      · show f (rd_see (M 153) (M 152 3) (M 152 2 + 1)) (am_up (am_up M 152 2 (M 152 2 + 1)) 152 2 (rd_at (M 153) (M 152 3) (M 152 2 + 1)))
        rw [am_up_up]
        unfold rd_see at h ⊢
        rw [rd_at_go ⟨by omega, c⟩] at h
        exact h
    refine bk_X12_look_0 ⟨fun c => by omega, fun c => ⟨⟨h0, by omega⟩, fun c2 => ⟨⟨by omega, by omega⟩, go (Or.inl c2)⟩, fun c2 => ⟨fun c3 => am_c0_i ?_, fun c3 => ⟨⟨by omega, by omega⟩, go (Or.inr c3)⟩⟩⟩⟩
    have e1 : rd_at (M 153) (M 152 3) (M 152 2) = M 152 2 := rd_at_stop (fun q => q.2.elim c2 c3)
    unfold rd_see at h
    rw [e1, am_up_id, if_pos c] at h
    exact h
theorem sp_look {d : Nat} {M : am_M} {f : Int → am_M → Prop} (h0 : 0 ≤ M 152 2) (h1 : M 152 3 ≤ 1600) (h : f (rd_see (M 153) (M 152 3) (M 152 2)) (am_up M 152 2 (rd_at (M 153) (M 152 3) (M 152 2)))) : am_cal pg (d + 1) 175 [(2, 152)] sh_T M (am_c0 sh_T f) :=
  en_X12_look (sp_look_g _ M rfl h0 h1 h)
