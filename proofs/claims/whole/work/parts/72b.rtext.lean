/-! THE REFERENCE'S TEXT, further: words, numbers, names -/
abbrev rf_is (M : am_M) (w : List Int) : Prop := rd_is (M 153) (M 152 3) (M 152 4) (rf_p M) w = true
theorem rf_p_p {M : am_M} : rf_p (am_up M 152 2 (rf_p M)) = rf_p M := rd_at_at
theorem rd_is_len {t : Int → Int} {e en i : Int} {w : List Int} (h : rd_is t e en i w = true) : rd_wd t e en i = w.length := by
  unfold rd_is at h
  simp only [Bool.and_eq_true, decide_eq_true_eq] at h
  exact h.1.1
theorem rf_w_le {M : am_M} (h : rf_ok M) : 0 ≤ rf_w M ∧ rf_p M + rf_w M ≤ M 152 3 := by
  unfold rf_w rd_wd
  have hp := rf_p_le h
  by_cases c : rf_p M = M 152 4
  · rw [if_pos c]; omega
  · rw [if_neg c]
    obtain ⟨h1, h2, -⟩ := rd_les_spec (t := M 153) (e := M 152 3) (rf_p M)
    refine ⟨h1, ?_⟩
    rcases h2 with h2 | h2
    · rw [h2]; omega
    · exact h2
/-- a word is gone over -/
abbrev rf_sk (M : am_M) (w : List Int) : am_M := am_up (am_up M 152 2 (rf_p M + w.length)) 152 4 (rf_p M + w.length)
theorem sp_takes {d : Nat} {M : am_M} {f : Int → am_M → Prop} {a : Int} {w : List Int} (h0 : rf_ok M) (hb : M 152 5 = 0) (hw : rf_word M a w) (ha : ¬ a = 152) (h1 : rf_is M w → f 1 (rf_sk M w)) (h2 : ¬ rf_is M w → f 0 (am_up M 152 2 (rf_p M))) : am_cal pg (d + 3) 177 [(2, 152), (2, a)] sh_T M (am_c0 sh_T f) := by
  have hp := rf_p_le h0
  have hwl := rf_w_le h0
  have h00 := h0
  obtain ⟨z1, z2, z3⟩ := h00
  refine en_X12_takes (bk_X12_takes_0 (sp_isHere h0 hb hw ha ⟨fun c => ?_, fun c => am_c0_i (h2 (am_b_z.mp c))⟩))
  have c' : rf_is M w := Classical.byContradiction fun z => c (am_b_z.mpr z)
  have hl := rd_is_len c'
  have hl : rf_w M = w.length := hl
  refine ⟨_, hw.1, ⟨by show -2147483648 ≤ rf_p M + _; omega, by show rf_p M + _ < _; omega⟩, am_c0_i ?_⟩
  show f 1 (am_up (am_up (am_up M 152 2 (rf_p M)) 152 2 (rf_p M + w.length)) 152 4 (rf_p M + w.length))
  rw [am_up_up]
  exact h1 c'
theorem sp_takes_bad {d : Nat} {M : am_M} {f : Int → am_M → Prop} {a : Int} (hb : ¬ M 152 5 = 0) (h : f 0 M) : am_cal pg (d + 2) 177 [(2, 152), (2, a)] sh_T M (am_c0 sh_T f) :=
  en_X12_takes (bk_X12_takes_0 (sp_isHere_bad hb ⟨fun z => absurd rfl z, fun _ => am_c0_i h⟩))
theorem sp_asks {d : Nat} {M : am_M} {f : am_M → Prop} {a : Int} {w : List Int} (h0 : rf_ok M) (hb : M 152 5 = 0) (hw : rf_word M a w) (ha : ¬ a = 152) (h1 : rf_is M w → f (rf_sk M w)) (h2 : ¬ rf_is M w → f (rf_bl (am_up M 152 2 (rf_p M)) 1 (rf_p M))) : am_cal pg (d + 4) 178 [(2, 152), (2, a)] sh_T M (am_cv sh_T f) :=
  en_X12_asks (bk_X12_asks_0 ⟨fun z => absurd hb z, fun _ => sp_takes h0 hb hw ha (fun c => ⟨fun _ => am_cv_i (h1 c), fun z => by cases z⟩) (fun c => ⟨fun z => absurd rfl z, fun _ => sp_fail (am_cv_i (h2 c))⟩)⟩)
theorem sp_asks_bad {d : Nat} {M : am_M} {f : am_M → Prop} {a : Int} (hb : ¬ M 152 5 = 0) (h : f M) : am_cal pg (d + 1) 178 [(2, 152), (2, a)] sh_T M (am_cv sh_T f) :=
  en_X12_asks (bk_X12_asks_0 ⟨fun _ => am_cv_i h, fun z => absurd z hb⟩)
abbrev rf_nm (M : am_M) : Int × Int := rd_num (M 153) (M 152 3) 4 (rf_p M) 0
theorem rd_by_see {t : Int → Int} {e i : Int} (h0 : 0 ≤ i) (h : i < e) : rd_by t e i = t i := if_pos ⟨h0, h⟩
theorem rd_by_out {t : Int → Int} {e i : Int} (h : e ≤ i) : rd_by t e i = -1 := if_neg (by omega)
/-- behind the digits -/
def rf_nb (M : am_M) (g p v : Int) : am_M := if g < v then rf_bl M 2 p else M
theorem sp_num_g {d : Nat} {f : Int → am_M → Prop} {g p : Int} (hg : 0 ≤ g) : ∀ (n : Nat) (M : am_M) (v : Int), M 152 2 - p = 4 - (n : Int) → n ≤ 4 → rf_ok M → 0 ≤ p → 0 ≤ v → (n = 4 → v ≤ 0) → (n = 3 → v ≤ 9) → (n = 2 → v ≤ 99) → (n = 1 → v ≤ 999) → (n = 0 → v ≤ 9999) →
    (is_di (rd_by (M 153) (M 152 3) (rd_num (M 153) (M 152 3) n (M 152 2) v).2) = true → f 0 (rf_bl (am_up M 152 2 (rd_num (M 153) (M 152 3) n (M 152 2) v).2) 1 (rd_num (M 153) (M 152 3) n (M 152 2) v).2)) →
    (¬ is_di (rd_by (M 153) (M 152 3) (rd_num (M 153) (M 152 3) n (M 152 2) v).2) = true → f (rd_num (M 153) (M 152 3) n (M 152 2) v).1 (rf_nb (am_up (am_up M 152 2 (rd_num (M 153) (M 152 3) n (M 152 2) v).2) 152 4 (rd_num (M 153) (M 152 3) n (M 152 2) v).2) g p (rd_num (M 153) (M 152 3) n (M 152 2) v).1)) →
    am_g 12 0 co_X12_number (d + 1) (am_c0 sh_T f) 49 [(2, 152), (0, 0), (0, g), (0, p), (0, v)] [] sh_T M := by
  intro n
  have fin : ∀ (M : am_M) (v : Int), 0 ≤ v → f v (rf_nb (am_up M 152 4 (M 152 2)) g p v) → am_g 12 0 co_X12_number (d + 1) (am_c0 sh_T f) 129 [(2, 152), (0, 0), (0, g), (0, p), (0, v)] [] sh_T M := by
    intro M v v0 h
    unfold rf_nb at h
    refine bk_X12_number_129 (sp_isIn ⟨fun c => bk_X12_number_156 (am_c0_i ?_), fun c => sp_fail (bk_X12_number_156 (am_c0_i ?_))⟩)
    · have c' : (0 ≤ v ∧ v ≤ g) := Classical.byContradiction fun z => c (am_b_z.mpr z)
      rw [if_neg (by omega)] at h; exact h
    · have c' := am_b_z.mp c
      rw [if_pos (by omega)] at h; exact h
  induction n with
  | zero =>
    intro M v hi hn hM p0 v0 _ _ _ _ w4 h1 h2
    obtain ⟨z1, z2, z3⟩ := hM
    have e : rd_num (M 153) (M 152 3) 0 (M 152 2) v = (v, M 152 2) := rfl
    rw [e] at h1 h2
    have h1 : is_di (rd_by (M 153) (M 152 3) (M 152 2)) = true → f 0 (rf_bl (am_up M 152 2 (M 152 2)) 1 (M 152 2)) := h1
    have h2 : ¬ is_di (rd_by (M 153) (M 152 3) (M 152 2)) = true → f v (rf_nb (am_up (am_up M 152 2 (M 152 2)) 152 4 (M 152 2)) g p v) := h2
    rw [am_up_id] at h1 h2
    refine bk_X12_number_49 ⟨fun c => fin M v v0 (h2 ?_), fun c => ⟨⟨z2, by omega⟩, sp_isDigit ⟨fun c2 => fin M v v0 (h2 ?_), fun c2 => ⟨⟨by omega, by omega⟩, fun c3 => by omega, fun _ => sp_fail (am_c0_i (h1 ?_))⟩⟩⟩⟩
    · rw [rd_by_out c]; decide
    · rw [rd_by_see z2 c]; exact am_b_z.mp c2
    · rw [rd_by_see z2 c]; exact Classical.byContradiction fun z => c2 (am_b_z.mpr z)
  | succ n ih =>
    intro M v hi hn hM p0 v0 w0 w1 w2 w3 w4 h1 h2
    have hM0 := hM
    obtain ⟨z1, z2, z3⟩ := hM
    have stop : ¬ is_di (rd_by (M 153) (M 152 3) (M 152 2)) = true → f v (rf_nb (am_up M 152 4 (M 152 2)) g p v) := fun q => by
      have e : rd_num (M 153) (M 152 3) (n + 1) (M 152 2) v = (v, M 152 2) := if_neg q
      rw [e] at h2
      have h2 : ¬ is_di (rd_by (M 153) (M 152 3) (M 152 2)) = true → f v (rf_nb (am_up (am_up M 152 2 (M 152 2)) 152 4 (M 152 2)) g p v) := h2
      rw [am_up_id] at h2
      exact h2 q
    refine bk_X12_number_49 ⟨fun c => fin M v v0 (stop ?_), fun c => ⟨⟨z2, by omega⟩, sp_isDigit ⟨fun c2 => fin M v v0 (stop ?_), fun c2 => ?_⟩⟩⟩
    · rw [rd_by_out c]; decide
    · rw [rd_by_see z2 c]; exact am_b_z.mp c2
    · have c' : is_di (M 153 (M 152 2)) = true := Classical.byContradiction fun z => c2 (am_b_z.mpr z)
      have c'' : is_di (rd_by (M 153) (M 152 3) (M 152 2)) = true := by rw [rd_by_see z2 c]; exact c'
      have cd := is_di_iff.mp c'
      have e : rd_num (M 153) (M 152 3) (n + 1) (M 152 2) v = rd_num (M 153) (M 152 3) n (M 152 2 + 1) (10 * v + M 153 (M 152 2) - 48) := if_pos c''
      rw [e] at h1 h2
      have hv : v ≤ 999 := by omega
      refine ⟨⟨by omega, by omega⟩, fun _ => ⟨⟨by omega, by omega⟩, ⟨z2, by omega⟩, ⟨by omega, by omega⟩, ⟨by omega, by omega⟩, ⟨by omega, by omega⟩, ih _ _ ?_ (by omega) ⟨z1, by show 0 ≤ M 152 2 + 1; omega, by show M 152 2 + 1 ≤ M 152 3; omega⟩ p0 (by omega) (by omega) (by omega) (by omega) (by omega) (by omega) ?_ ?_⟩, fun c3 => by omega⟩
      · show M 152 2 + 1 - p = 4 - (n : Int); omega
      · intro q
        have := h1 q
        show f 0 (rf_bl (am_up (am_up M 152 2 (M 152 2 + 1)) 152 2 (rd_num (M 153) (M 152 3) n (M 152 2 + 1) (10 * v + M 153 (M 152 2) - 48)).2) 1 (rd_num (M 153) (M 152 3) n (M 152 2 + 1) (10 * v + M 153 (M 152 2) - 48)).2)
        rw [am_up_up]; exact this
      · intro q
        have := h2 q
        show f (rd_num (M 153) (M 152 3) n (M 152 2 + 1) (10 * v + M 153 (M 152 2) - 48)).1 (rf_nb (am_up (am_up (am_up M 152 2 (M 152 2 + 1)) 152 2 (rd_num (M 153) (M 152 3) n (M 152 2 + 1) (10 * v + M 153 (M 152 2) - 48)).2) 152 4 (rd_num (M 153) (M 152 3) n (M 152 2 + 1) (10 * v + M 153 (M 152 2) - 48)).2) g p (rd_num (M 153) (M 152 3) n (M 152 2 + 1) (10 * v + M 153 (M 152 2) - 48)).1)
        rw [am_up_up]; exact this
theorem sp_number {d : Nat} {M : am_M} {f : Int → am_M → Prop} {g : Int} (hg : 0 ≤ g) (h0 : rf_ok M) (hb : M 152 5 = 0)
    (h1 : (¬ is_di (rf_c M) = true ∨ rf_p M = M 152 4) → f 0 (rf_bl (am_up M 152 2 (rf_p M)) 1 (rf_p M)))
    (h2 : is_di (rf_c M) = true → ¬ rf_p M = M 152 4 → is_di (rd_by (M 153) (M 152 3) (rf_nm M).2) = true → f 0 (rf_bl (am_up M 152 2 (rf_nm M).2) 1 (rf_nm M).2))
    (h3 : is_di (rf_c M) = true → ¬ rf_p M = M 152 4 → ¬ is_di (rd_by (M 153) (M 152 3) (rf_nm M).2) = true → f (rf_nm M).1 (rf_nb (am_up (am_up M 152 2 (rf_nm M).2) 152 4 (rf_nm M).2) g (rf_p M) (rf_nm M).1)) : am_cal pg (d + 3) 181 [(2, 152), (0, 0), (0, g)] sh_T M (am_c0 sh_T f) := by
  have hp := rf_p_le h0
  have to30 : (¬ is_di (rf_c M) = true ∨ rf_p M = M 152 4) → am_g 12 0 co_X12_number (d + 2) (am_c0 sh_T f) 30 [(2, 152), (3, 0), (3, 0), (3, 0), (3, 0)] [] sh_T (am_up M 152 2 (rf_p M)) := fun q => bk_X12_number_30 (sp_fail (am_c0_i (h1 q)))
  refine en_X12_number (bk_X12_number_0 ⟨fun _ => sp_look h0 (sp_isDigit ⟨fun c => to30 (Or.inl (am_b_z.mp c)), fun c => ?_⟩), fun z => absurd hb z⟩)
  have c' : is_di (rf_c M) = true := Classical.byContradiction fun z => c (am_b_z.mpr z)
  refine ⟨fun c2 => ?_, fun c2 => to30 (Or.inr c2)⟩
  refine sp_num_g hg 4 _ 0 ?_ (by omega) (rf_ok_p h0) (by show 0 ≤ rf_p M; have := h0.2.1; omega) (by omega) (by omega) (by omega) (by omega) (by omega) (by omega) (fun q => ?_) (fun q => ?_)
  · show rf_p M - rf_p M = 4 - 4; omega
  · have := h2 c' c2 q
    show f 0 (rf_bl (am_up (am_up M 152 2 (rf_p M)) 152 2 (rf_nm M).2) 1 (rf_nm M).2)
    rw [am_up_up]; exact this
  · have := h3 c' c2 q
    show f (rf_nm M).1 (rf_nb (am_up (am_up (am_up M 152 2 (rf_p M)) 152 2 (rf_nm M).2) 152 4 (rf_nm M).2) g (rf_p M) (rf_nm M).1)
    rw [am_up_up]; exact this
theorem sp_number_bad {d : Nat} {M : am_M} {f : Int → am_M → Prop} {g x : Int} (hb : ¬ M 152 5 = 0) (h : f 0 M) : am_cal pg (d + 1) 181 [(2, 152), (0, x), (0, g)] sh_T M (am_c0 sh_T f) :=
  en_X12_number (bk_X12_number_0 ⟨fun z => absurd z hb, fun _ => am_c0_i h⟩)
