/-! THE REFERENCE'S TEXT (object 152, its tape object 153): its smallest readers -/
def rf_ok (M : am_M) : Prop := M 152 3 ≤ 1600 ∧ 0 ≤ M 152 2 ∧ M 152 2 ≤ M 152 3
abbrev rf_p (M : am_M) : Int := rd_at (M 153) (M 152 3) (M 152 2)
abbrev rf_c (M : am_M) : Int := rd_see (M 153) (M 152 3) (M 152 2)
abbrev rf_w (M : am_M) : Int := rd_wd (M 153) (M 152 3) (M 152 4) (rf_p M)
theorem rf_p_le {M : am_M} (h : rf_ok M) : M 152 2 ≤ rf_p M ∧ rf_p M ≤ M 152 3 := by
  obtain ⟨h1, h2, -⟩ := rd_at_spec (t := M 153) (e := M 152 3) (M 152 2)
  refine ⟨h1, ?_⟩
  rcases h2 with h2 | h2
  · exact h2
  · show rd_at _ _ _ ≤ _; rw [h2]; exact h.2.2
theorem rf_ok_p {M : am_M} (h : rf_ok M) : rf_ok (am_up M 152 2 (rf_p M)) := ⟨h.1, Int.le_trans h.2.1 (rf_p_le h).1, (rf_p_le h).2⟩
theorem sp_isIn {d : Nat} {M : am_M} {f : Int → am_M → Prop} {x y z : Int} (h : f (am_b (y ≤ x ∧ x ≤ z)) M) : am_cal pg (d + 1) 169 [(1, x), (1, y), (1, z)] sh_T M (am_c0 sh_T f) :=
  en_X12_isIn (bk_X12_isIn_0 ⟨fun c => am_c0_i (by rw [am_b_0 (by omega)] at h; exact h), fun c => ⟨fun c2 => am_c0_i (by rw [am_b_0 (by omega)] at h; exact h), fun c2 => am_c0_i (by rw [am_b_1 (by omega)] at h; exact h)⟩⟩)
theorem sp_isLetter {d : Nat} {M : am_M} {f : Int → am_M → Prop} {x : Int} (h : f (am_b (is_le x = true)) M) : am_cal pg (d + 1) 173 [(0, x)] sh_T M (am_c0 sh_T f) :=
  en_X12_isLetter (bk_X12_isLetter_0 ⟨fun c => am_c0_i (by rw [am_b_0 (fun z => by have := is_le_iff.mp z; omega)] at h; exact h), fun c => ⟨fun c2 => am_c0_i (by rw [am_b_0 (fun z => by have := is_le_iff.mp z; omega)] at h; exact h), fun c2 => am_c0_i (by rw [am_b_1 (is_le_iff.mpr (by omega))] at h; exact h)⟩⟩)
theorem is_di_iff {c : Int} : is_di c = true ↔ (48 ≤ c ∧ c ≤ 57) := by unfold is_di; simp
theorem sp_isDigit {d : Nat} {M : am_M} {f : Int → am_M → Prop} {x : Int} (h : f (am_b (is_di x = true)) M) : am_cal pg (d + 1) 174 [(0, x)] sh_T M (am_c0 sh_T f) :=
  en_X12_isDigit (bk_X12_isDigit_0 ⟨fun c => am_c0_i (by rw [am_b_0 (fun z => by have := is_di_iff.mp z; omega)] at h; exact h), fun c => ⟨fun c2 => am_c0_i (by rw [am_b_0 (fun z => by have := is_di_iff.mp z; omega)] at h; exact h), fun c2 => am_c0_i (by rw [am_b_1 (is_di_iff.mpr (by omega))] at h; exact h)⟩⟩)
def rf_bl (M : am_M) (k p : Int) : am_M := if M 152 5 = 0 then am_up (am_up M 152 5 k) 152 6 p else M
theorem rf_bl_0 {M : am_M} (h : M 152 5 = 0) {k p : Int} : rf_bl M k p = am_up (am_up M 152 5 k) 152 6 p := if_pos h
theorem sp_fail {d : Nat} {M : am_M} {f : am_M → Prop} {x y : Int} (h : f (rf_bl M x y)) : am_cal pg (d + 1) 172 [(2, 152), (0, x), (0, y)] sh_T M (am_cv sh_T f) := by
  unfold rf_bl at h
  exact en_X12_fail (bk_X12_fail_0 ⟨fun c => am_cv_i (by rw [if_pos c] at h; exact h), fun c => am_cv_i (by rw [if_neg c] at h; exact h)⟩)
theorem sp_look_g {d : Nat} {f : Int → am_M → Prop} : ∀ (n : Nat) (M : am_M), (M 152 3 - M 152 2).toNat = n → 0 ≤ M 152 2 → M 152 3 ≤ 1600 → f (rf_c M) (am_up M 152 2 (rf_p M)) → am_g 12 0 co_X12_look d (am_c0 sh_T f) 0 [(2, 152)] [] sh_T M := by
  intro n
  induction n with
  | zero =>
    intro M hn h0 h1 h
    have e1 : rd_at (M 153) (M 152 3) (M 152 2) = M 152 2 := rd_at_stop (by omega)
    unfold rf_c rf_p rd_see at h
    rw [e1, am_up_id, if_neg (by omega)] at h
    exact bk_X12_look_0 ⟨fun _ => am_c0_i h, fun c => by omega⟩
  | succ n ih =>
    intro M hn h0 h1 h
    have go : (M 153 (M 152 2) = 10 ∨ M 153 (M 152 2) = 32) → am_g 12 0 co_X12_look d (am_c0 sh_T f) 0 [(2, 152)] [] sh_T (am_up M 152 2 (M 152 2 + 1)) := by
      intro c
      refine ih _ ?_ ?_ ?_ ?_
      · show (M 152 3 - (M 152 2 + 1)).toNat = n; omega
      · show 0 ≤ M 152 2 + 1; omega
      · exact h1
      · show f (rd_see (M 153) (M 152 3) (M 152 2 + 1)) (am_up (am_up M 152 2 (M 152 2 + 1)) 152 2 (rd_at (M 153) (M 152 3) (M 152 2 + 1)))
        rw [am_up_up]
        unfold rf_c rf_p rd_see at h
        unfold rd_see
        rw [rd_at_go ⟨by omega, c⟩] at h
        exact h
    refine bk_X12_look_0 ⟨fun c => by omega, fun c => ⟨⟨h0, by omega⟩, fun c2 => ⟨⟨by omega, by omega⟩, go (Or.inl c2)⟩, fun c2 => ⟨fun c3 => am_c0_i ?_, fun c3 => ⟨⟨by omega, by omega⟩, go (Or.inr c3)⟩⟩⟩⟩
    have e1 : rd_at (M 153) (M 152 3) (M 152 2) = M 152 2 := rd_at_stop (fun q => q.2.elim c2 c3)
    unfold rf_c rf_p rd_see at h
    rw [e1, am_up_id, if_pos c] at h
    exact h
theorem sp_look {d : Nat} {M : am_M} {f : Int → am_M → Prop} (h0 : rf_ok M) (h : f (rf_c M) (am_up M 152 2 (rf_p M))) : am_cal pg (d + 1) 175 [(2, 152)] sh_T M (am_c0 sh_T f) :=
  en_X12_look (sp_look_g _ M rfl h0.2.1 h0.1 h)
theorem sp_takesSign {d : Nat} {M : am_M} {f : Int → am_M → Prop} {c : Int} (h0 : rf_ok M) (hb : M 152 5 = 0) (h1 : rf_c M = c → f 1 (am_up M 152 2 (rf_p M + 1))) (h2 : ¬ rf_c M = c → f 0 (am_up M 152 2 (rf_p M))) : am_cal pg (d + 2) 179 [(2, 152), (0, c)] sh_T M (am_c0 sh_T f) := by
  have hp := rf_p_le h0
  have h00 := h0
  obtain ⟨z1, z2, z3⟩ := h00
  refine en_X12_takesSign (bk_X12_takesSign_0 ⟨fun z => absurd hb z, fun _ => sp_look h0 ⟨fun c1 => ⟨⟨by show -2147483648 ≤ rf_p M + 1; omega, by show rf_p M + 1 < _; omega⟩, am_c0_i ?_⟩, fun c1 => am_c0_i (h2 c1)⟩⟩)
  have := h1 c1
  show f 1 (am_up (am_up M 152 2 (rf_p M)) 152 2 (rf_p M + 1))
  rw [am_up_up]
  exact this
theorem sp_takesSign_bad {d : Nat} {M : am_M} {f : Int → am_M → Prop} {c : Int} (hb : ¬ M 152 5 = 0) (h : f 0 M) : am_cal pg (d + 1) 179 [(2, 152), (0, c)] sh_T M (am_c0 sh_T f) :=
  en_X12_takesSign (bk_X12_takesSign_0 ⟨fun _ => am_c0_i h, fun z => absurd z hb⟩)
theorem sp_asksSign {d : Nat} {M : am_M} {f : am_M → Prop} {c : Int} (h0 : rf_ok M) (hb : M 152 5 = 0) (h1 : rf_c M = c → f (am_up M 152 2 (rf_p M + 1))) (h2 : ¬ rf_c M = c → f (rf_bl (am_up M 152 2 (rf_p M)) 1 (rf_p M))) : am_cal pg (d + 3) 180 [(2, 152), (0, c)] sh_T M (am_cv sh_T f) :=
  en_X12_asksSign (bk_X12_asksSign_0 ⟨fun z => absurd hb z, fun _ => sp_takesSign h0 hb (fun c1 => ⟨fun _ => am_cv_i (h1 c1), fun z => by cases z⟩) (fun c1 => ⟨fun z => absurd rfl z, fun _ => sp_fail (am_cv_i (h2 c1))⟩)⟩)
theorem sp_asksSign_bad {d : Nat} {M : am_M} {f : am_M → Prop} {c : Int} (hb : ¬ M 152 5 = 0) (h : f M) : am_cal pg (d + 1) 180 [(2, 152), (0, c)] sh_T M (am_cv sh_T f) :=
  en_X12_asksSign (bk_X12_asksSign_0 ⟨fun _ => am_cv_i h, fun z => absurd z hb⟩)
/-- a word of the reference's: its signs lie in a row -/
def rf_word (M : am_M) (a : Int) (w : List Int) : Prop := am_alen pg sh_T a = some w.length ∧ (∀ i : Int, 0 ≤ i → i < w.length → am_in pg sh_T 2 a i) ∧ (∀ i : Nat, i < w.length → M a i = w.getD i 0) ∧ w ≠ [] ∧ w.length ≤ 20
theorem rd_like_at {t : Int → Int} : ∀ (w : List Int) (i : Int), rd_like t w i = true ↔ ∀ j : Nat, j < w.length → t (i + j) = w.getD j 0
  | [], i => ⟨fun _ j hj => by simp at hj, fun _ => rfl⟩
  | c :: w, i => by
    show ((decide (t i = c) && rd_like t w (i + 1)) = true) ↔ _
    rw [Bool.and_eq_true, decide_eq_true_eq, rd_like_at w (i + 1)]
    constructor
    · rintro ⟨h1, h2⟩ j hj
      cases j with
      | zero => simpa using h1
      | succ j =>
        have := h2 j (by simpa using hj)
        rw [show i + 1 + (j : Int) = i + ((j + 1 : Nat) : Int) by omega] at this
        simpa using this
    · intro h
      refine ⟨by simpa using h 0 (by simp), fun j hj => ?_⟩
      have := h (j + 1) (by simpa using hj)
      rw [show i + 1 + (j : Int) = i + ((j + 1 : Nat) : Int) by omega]
      simpa using this
theorem sp_like {d : Nat} {M : am_M} {f : Int → am_M → Prop} {a : Int} {w : List Int} (hw : rf_word M a w) (h0 : 0 ≤ M 152 2) (h1 : M 152 2 + w.length ≤ 1600) : ∀ (n : Nat) (i : Nat), w.length - i = n → i ≤ w.length → (∀ j : Nat, j < i → M 153 (M 152 2 + j) = w.getD j 0) → f (am_b (rd_like (M 153) w (M 152 2) = true)) M → am_g 12 5 co_X12_isHere d (am_c0 sh_T f) 76 [(2, 152), (2, a), (3, 0), (0, (i : Int))] [] sh_T M := by
  obtain ⟨w1, w2, w3, w4, w5⟩ := hw
  intro n
  induction n with
  | zero =>
    intro i hn hi hj h
    refine bk_X12_isHere_76 ⟨_, w1, fun c => am_c0_i ?_, fun c => by omega⟩
    rw [am_b_1 ((rd_like_at w _).mpr fun j hj' => hj j (by omega))] at h
    exact h
  | succ n ih =>
    intro i hn hi hj h
    refine bk_X12_isHere_76 ⟨_, w1, fun c => by omega, fun c => ⟨⟨by omega, by omega⟩, ⟨by omega, by omega⟩, w2 i (by omega) (by omega), fun c2 => ⟨⟨by omega, by omega⟩, ?_⟩, fun c2 => am_c0_i ?_⟩⟩
    · have := ih (i + 1) (by omega) (by omega) (fun j hj' => ?_) h
      · exact this
      · by_cases q : j = i
        · subst q; rw [c2]; exact w3 j (by omega)
        · exact hj j (by omega)
    · rw [am_b_0 (fun z => c2 (by rw [(rd_like_at w _).mp z i (by omega), w3 i (by omega)]))] at h
      exact h
theorem sp_isHere {d : Nat} {M : am_M} {f : Int → am_M → Prop} {a : Int} {w : List Int} (h0 : rf_ok M) (hb : M 152 5 = 0) (hw : rf_word M a w) (ha : ¬ a = 152) (h : f (am_b (rd_is (M 153) (M 152 3) (M 152 4) (rf_p M) w = true)) (am_up M 152 2 (rf_p M))) : am_cal pg (d + 2) 176 [(2, 152), (2, a)] sh_T M (am_c0 sh_T f) := by
  have hp := rf_p_le h0
  have h00 := h0
  obtain ⟨z1, z2, z3⟩ := h00
  have hw0 := hw
  obtain ⟨w1, w2, w3, w4, w5⟩ := hw
  have hl : 0 < w.length := List.length_pos_iff.mpr w4
  generalize hM : am_up M 152 2 (rf_p M) = M1 at h
  have e2 : M1 152 2 = rf_p M := by rw [← hM]; rfl
  have e3 : M1 152 3 = M 152 3 := by rw [← hM]; rfl
  have e4 : M1 152 4 = M 152 4 := by rw [← hM]; rfl
  have et : M1 153 = M 153 := by rw [← hM]; rfl
  have hw1 : rf_word M1 a w := ⟨w1, w2, fun i hi => by rw [← hM, am_up_el (by omega)]; exact w3 i hi, w4, w5⟩
  have no : rd_wd (M 153) (M 152 3) (M 152 4) (rf_p M) ≠ w.length → f 0 M1 := fun q => by
    rw [am_b_0] at h
    · exact h
    · unfold rd_is; simp [q]
  refine en_X12_isHere (bk_X12_isHere_0 ⟨fun z => absurd hb z, fun _ => sp_look h0 (sp_isLetter ?_)⟩)
  rw [hM]
  refine ⟨fun c => am_c0_i (no ?_), fun c => ⟨fun c1 => ?_, fun c1 => am_c0_i (no ?_)⟩⟩
  · have c' := am_b_z.mp c
    have : rd_wd (M 153) (M 152 3) (M 152 4) (rf_p M) = 0 := by
      unfold rd_wd
      split
      · rfl
      · refine rd_les_stop fun z => c' ?_
        unfold rf_c rd_see
        rw [if_pos z.1]; exact z.2
    omega
  · rw [e2, e4] at c1
    have loop : ∀ v, rf_p M ≤ v → v ≤ M 152 3 → v - rf_p M + rd_les (M 153) (M 152 3) v = rd_les (M 153) (M 152 3) (rf_p M) → am_g 12 5 co_X12_isHere (d + 1) (am_c0 sh_T f) 35 [(2, 152), (2, a), (0, v), (3, 0)] [] sh_T M1 := by
      refine rd_ind (e := M 152 3) fun v ih v0 v1 hv => ?_
      have fin : ¬ (v < M 152 3 ∧ is_le (M 153 v) = true) → (am_r (v - (M1 152 2)) ∧ ∃ n2 : Nat, am_alen pg sh_T a = some n2 ∧ ((v - (M1 152 2) = (n2 : Int) → am_g 12 5 co_X12_isHere (d + 1) (am_c0 sh_T f) 76 [(2, 152), (2, a), (3, 0), (0, 0)] [] sh_T M1) ∧ (¬ v - (M1 152 2) = (n2 : Int) → am_c0 sh_T f (some (0, 0), sh_T, M1)))) := fun z => by
        rw [rd_les_stop z, Int.add_zero] at hv
        rw [e2]
        refine ⟨⟨by omega, by omega⟩, _, w1, fun c2 => ?_, fun c2 => am_c0_i (no ?_)⟩
        · refine sp_like hw1 (by rw [e2]; omega) (by rw [e2]; omega) w.length 0 rfl (Nat.zero_le _) (fun j hj => by omega) ?_
          rw [et, e2]
          have : am_b (rd_is (M 153) (M 152 3) (M 152 4) (rf_p M) w = true) = am_b (rd_like (M 153) w (rf_p M) = true) := by
            refine am_b_eq ?_
            unfold rd_is rd_wd
            rw [if_neg c1, ← hv, c2]
            simp [w4]
          rw [this] at h
          exact h
        · unfold rd_wd
          rw [if_neg c1, ← hv]
          exact c2
      refine bk_X12_isHere_35 ⟨fun c2 => fin (by rw [e3] at c2; omega), fun c2 => ⟨⟨by omega, by rw [e3] at c2; omega⟩, sp_isLetter ⟨fun c3 => fin fun z => (am_b_z.mp c3) (by rw [et]; exact z.2), fun c3 => ⟨⟨by rw [e3] at c2; omega, by rw [e3] at c2; omega⟩, ?_⟩⟩⟩⟩
      have c3' : is_le (M 153 v) = true := by
        rw [← et]
        exact Classical.byContradiction fun z => c3 (am_b_z.mpr z)
      rw [e3] at c2
      rw [rd_les_go ⟨c2, c3'⟩] at hv
      exact ih (v + 1) (by omega) (by omega) (by omega) (by omega) (by omega)
    rw [e2]
    exact loop _ (Int.le_refl _) hp.2 (by omega)
  · rw [e2, e4] at c1
    unfold rd_wd
    rw [if_pos c1]
    omega
theorem sp_isHere_bad {d : Nat} {M : am_M} {f : Int → am_M → Prop} {a : Int} (hb : ¬ M 152 5 = 0) (h : f 0 M) : am_cal pg (d + 1) 176 [(2, 152), (2, a)] sh_T M (am_c0 sh_T f) :=
  en_X12_isHere (bk_X12_isHere_0 ⟨fun _ => am_c0_i h, fun z => absurd z hb⟩)
