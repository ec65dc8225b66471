/-! THE REFERENCE'S ROWS: what lies in them, summed up; the dread that counts most -/
def rf_cn (M : am_M) : Prop := 0 ≤ M 174 3 ∧ M 174 3 ≤ 6
def ro_ok (M : am_M) (r : Int) : Prop := 0 ≤ r ∧ r ≤ 1490 ∧ ∀ k : Int, 0 ≤ k → k < 6 → 0 ≤ M 187 (r + k) ∧ M 187 (r + k) ≤ 999
abbrev ro (M : am_M) (r : Int) : Int → Int := fun k => M 187 (r + k)
theorem sp_dreadMany {d : Nat} {M : am_M} {f : Int → am_M → Prop} (h : f (M 174 3) M) : am_cal pg (d + 1) 211 [(2, 152)] sh_T M (am_c0 sh_T f) := en_X12_dreadMany (bk_X12_dreadMany_0 (am_c0_i h))
theorem sp_dreamerMany {d : Nat} {M : am_M} {f : Int → am_M → Prop} (h : f (M 174 4) M) : am_cal pg (d + 1) 212 [(2, 152)] sh_T M (am_c0 sh_T f) := en_X12_dreamerMany (bk_X12_dreamerMany_0 (am_c0_i h))
theorem sp_guideMany {d : Nat} {M : am_M} {f : Int → am_M → Prop} (h : f (M 174 5) M) : am_cal pg (d + 1) 213 [(2, 152)] sh_T M (am_c0 sh_T f) := en_X12_guideMany (bk_X12_guideMany_0 (am_c0_i h))
theorem sp_isDread {d : Nat} {M : am_M} {f : Int → am_M → Prop} {k : Int} (hc : rf_cn M) (h : f (am_b (0 ≤ k ∧ k < M 174 3)) M) : am_cal pg (d + 2) 214 [(2, 152), (0, k)] sh_T M (am_c0 sh_T f) :=
  en_X12_isDread (bk_X12_isDread_0 (sp_dreadMany ⟨by have := hc.1; have := hc.2; exact ⟨by omega, by omega⟩, sp_isIn ⟨am_b_01, am_c0_i (by rw [am_b_eq (show (0 ≤ k ∧ k < M 174 3) ↔ (0 ≤ k ∧ k ≤ M 174 3 - 1) by omega)] at h; exact h)⟩⟩))
theorem sp_isDreamer {d : Nat} {M : am_M} {f : Int → am_M → Prop} {k : Int} (hc : 0 ≤ M 174 4 ∧ M 174 4 ≤ 4) (h : f (am_b (0 ≤ k ∧ k < M 174 4)) M) : am_cal pg (d + 2) 215 [(2, 152), (0, k)] sh_T M (am_c0 sh_T f) :=
  en_X12_isDreamer (bk_X12_isDreamer_0 (sp_dreamerMany ⟨by have := hc.1; have := hc.2; exact ⟨by omega, by omega⟩, sp_isIn ⟨am_b_01, am_c0_i (by rw [am_b_eq (show (0 ≤ k ∧ k < M 174 4) ↔ (0 ≤ k ∧ k ≤ M 174 4 - 1) by omega)] at h; exact h)⟩⟩))
theorem sp_settingOf {d : Nat} {M : am_M} {f : Int → am_M → Prop} {k : Int} (h0 : 0 ≤ k) (h1 : k < 3) (h : f (M 179 (3 + k)) M) : am_cal pg (d + 1) 216 [(2, 152), (0, k)] sh_T M (am_c0 sh_T f) := en_X12_settingOf (bk_X12_settingOf_0 ⟨⟨by omega, by omega⟩, ⟨by omega, by omega⟩, am_c0_i h⟩)
theorem sp_weightOf {d : Nat} {M : am_M} {f : Int → am_M → Prop} {a k : Int} (h0 : 0 ≤ a ∧ a < 4) (h1 : 0 ≤ k ∧ k < 6) (h : f (M 186 (7 * a + 1 + k)) M) : am_cal pg (d + 1) 217 [(2, 152), (0, a), (0, k)] sh_T M (am_c0 sh_T f) := en_X12_weightOf (bk_X12_weightOf_0 ⟨⟨by omega, by omega⟩, ⟨by omega, by omega⟩, ⟨by omega, by omega⟩, ⟨by omega, by omega⟩, am_c0_i h⟩)
theorem sp_guideOf {d : Nat} {M : am_M} {f : Int → am_M → Prop} {a : Int} (h0 : 0 ≤ a ∧ a < 4) (h : f (M 186 (7 * a)) M) : am_cal pg (d + 1) 230 [(2, 152), (0, a)] sh_T M (am_c0 sh_T f) := en_X12_guideOf (bk_X12_guideOf_0 ⟨⟨by omega, by omega⟩, ⟨by omega, by omega⟩, am_c0_i h⟩)
theorem sp_laysNow {d : Nat} {M : am_M} {f : am_M → Prop} {a r : Int} (h0 : 0 ≤ a ∧ a < 4) (h1 : 0 ≤ r ∧ r ≤ 1490) (h : f (am_rs M 187 r (fun k => M 186 (7 * a + 1 + k)) 6)) : am_cal pg (d + 2) 218 [(2, 152), (0, a), (0, r)] sh_T M (am_cv sh_T f) := by
  have go : ∀ (n k : Nat), k + n = 6 → am_g 12 9 co_X12_laysNow (d + 1) (am_cv sh_T f) 2 [(2, 152), (0, a), (0, r), (0, (k : Int))] [] sh_T (am_rs M 187 r (fun k => M 186 (7 * a + 1 + k)) k) := by
    intro n
    induction n with
    | zero =>
      intro k hk
      have : k = 6 := by omega
      subst this
      exact bk_X12_laysNow_2 ⟨fun _ => am_cv_i h, fun c => by omega⟩
    | succ n ih =>
      intro k hk
      refine bk_X12_laysNow_2 ⟨fun c => by omega, fun c => ⟨⟨by omega, by omega⟩, sp_weightOf h0 ⟨by omega, by omega⟩ ⟨⟨by omega, by omega⟩, ⟨by omega, by omega⟩, ?_⟩⟩⟩
      rw [am_rs_el (b := 186) (by decide), am_rs_s rfl rfl]
      exact ih (k + 1) (by omega)
  have := go 6 0 rfl
  rw [am_rs_0] at this
  exact en_X12_laysNow (bk_X12_laysNow_0 this)
theorem sp_laysRow {d : Nat} {M : am_M} {f : am_M → Prop} {r q : Int} (h0 : 0 ≤ r ∧ r ≤ 1490) (h1 : 0 ≤ q ∧ q ≤ 1490) (hd : r + 6 ≤ q ∨ q + 6 ≤ r) (h : f (am_rs M 187 q (ro M r) 6)) : am_cal pg (d + 1) 219 [(2, 152), (0, r), (0, q)] sh_T M (am_cv sh_T f) := by
  have go : ∀ (n k : Nat), k + n = 6 → am_g 12 9 co_X12_laysRow d (am_cv sh_T f) 2 [(2, 152), (0, r), (0, q), (0, (k : Int))] [] sh_T (am_rs M 187 q (ro M r) k) := by
    intro n
    induction n with
    | zero =>
      intro k hk
      have : k = 6 := by omega
      subst this
      exact bk_X12_laysRow_2 ⟨fun _ => am_cv_i h, fun c => by omega⟩
    | succ n ih =>
      intro k hk
      refine bk_X12_laysRow_2 ⟨fun c => by omega, fun c => ⟨⟨by omega, by omega⟩, ⟨by omega, by omega⟩, ⟨by omega, by omega⟩, ⟨by omega, by omega⟩, ⟨by omega, by omega⟩, ?_⟩⟩
      rw [am_rs_out (j := r + (k : Int)) (by omega), am_rs_s rfl rfl]
      exact ih (k + 1) (by omega)
  have := go 6 0 rfl
  rw [am_rs_0] at this
  exact en_X12_laysRow (bk_X12_laysRow_0 this)
theorem sp_isNow {d : Nat} {M : am_M} {f : am_M → Prop} {a r : Int} (h0 : 0 ≤ a ∧ a < 4) (h1 : 0 ≤ r ∧ r ≤ 1490) (h : f (am_rs M 186 (7 * a + 1) (ro M r) 6)) : am_cal pg (d + 1) 220 [(2, 152), (0, a), (0, r)] sh_T M (am_cv sh_T f) := by
  have go : ∀ (n k : Nat), k + n = 6 → am_g 12 9 co_X12_isNow d (am_cv sh_T f) 2 [(2, 152), (0, a), (0, r), (0, (k : Int))] [] sh_T (am_rs M 186 (7 * a + 1) (ro M r) k) := by
    intro n
    induction n with
    | zero =>
      intro k hk
      have : k = 6 := by omega
      subst this
      exact bk_X12_isNow_2 ⟨fun _ => am_cv_i h, fun c => by omega⟩
    | succ n ih =>
      intro k hk
      refine bk_X12_isNow_2 ⟨fun c => by omega, fun c => ⟨⟨by omega, by omega⟩, ⟨by omega, by omega⟩, ⟨by omega, by omega⟩, ⟨by omega, by omega⟩, ⟨by omega, by omega⟩, ⟨by omega, by omega⟩, ⟨by omega, by omega⟩, ?_⟩⟩
      rw [am_rs_el (b := 187) (by decide), am_rs_s rfl rfl]
      exact ih (k + 1) (by omega)
  have := go 6 0 rfl
  rw [am_rs_0] at this
  exact en_X12_isNow (bk_X12_isNow_0 this)
theorem sp_sumAt {d : Nat} {M : am_M} {f : Int → am_M → Prop} {r : Int} (hc : rf_cn M) (hr : ro_ok M r) (h : f (pu_sum (ro M r) (M 174 3).toNat) M) : am_cal pg (d + 2) 221 [(2, 152), (0, r)] sh_T M (am_c0 sh_T f) := by
  obtain ⟨r0, r1, hw⟩ := hr
  obtain ⟨c0, c1⟩ := hc
  have go : ∀ (n k : Nat) (x : Int), k + n = (M 174 3).toNat → x = pu_sum (ro M r) k → 0 ≤ x → x ≤ k * 999 → am_g 12 0 co_X12_sumAt (d + 1) (am_c0 sh_T f) 4 [(2, 152), (0, r), (0, x), (0, (k : Int))] [] sh_T M := by
    intro n
    induction n with
    | zero =>
      intro k x hk hx x0 x1
      exact bk_X12_sumAt_4 (sp_dreadMany ⟨fun _ => am_c0_i (by rw [hx, show k = (M 174 3).toNat by omega]; exact h), fun c => by omega⟩)
    | succ n ih =>
      intro k x hk hx x0 x1
      obtain ⟨w0, w1⟩ := hw k (by omega) (by omega)
      exact bk_X12_sumAt_4 (sp_dreadMany ⟨fun c => by omega, fun c => ⟨⟨by omega, by omega⟩, ⟨by omega, by omega⟩, ⟨by omega, by omega⟩, ⟨by omega, by omega⟩, ih (k + 1) _ (by omega) (by rw [hx]; rfl) (by omega) (by omega)⟩⟩)
  exact en_X12_sumAt (bk_X12_sumAt_0 (go (M 174 3).toNat 0 0 (Nat.zero_add _) rfl (Int.le_refl _) (by decide)))
theorem sp_greatestAt {d : Nat} {M : am_M} {f : Int → am_M → Prop} {r : Int} (hc : rf_cn M) (hr : ro_ok M r) (h : f (pu_max (ro M r) (M 174 3).toNat) M) : am_cal pg (d + 2) 222 [(2, 152), (0, r)] sh_T M (am_c0 sh_T f) := by
  obtain ⟨r0, r1, hw⟩ := hr
  obtain ⟨c0, c1⟩ := hc
  have go : ∀ (n k : Nat) (x : Int), k + n = (M 174 3).toNat → x = pu_max (ro M r) k → am_g 12 0 co_X12_greatestAt (d + 1) (am_c0 sh_T f) 4 [(2, 152), (0, r), (0, x), (0, (k : Int))] [] sh_T M := by
    intro n
    induction n with
    | zero =>
      intro k x hk hx
      exact bk_X12_greatestAt_4 (sp_dreadMany ⟨fun _ => am_c0_i (by rw [hx, show k = (M 174 3).toNat by omega]; exact h), fun c => by omega⟩)
    | succ n ih =>
      intro k x hk hx
      refine bk_X12_greatestAt_4 (sp_dreadMany ⟨fun c => by omega, fun c => ⟨⟨by omega, by omega⟩, ⟨by omega, by omega⟩, fun c2 => ⟨⟨by omega, by omega⟩, ih (k + 1) _ (by omega) ?_⟩, fun c2 => ⟨⟨by omega, by omega⟩, ⟨by omega, by omega⟩, ih (k + 1) _ (by omega) ?_⟩⟩⟩)
      · show x = (if pu_max (ro M r) k < ro M r k then _ else _)
        rw [← hx, if_neg (by show ¬ x < M 187 (r + k); omega)]
      · show _ = (if pu_max (ro M r) k < ro M r k then _ else _)
        rw [← hx, if_pos (show x < M 187 (r + k) from c2)]
  exact en_X12_greatestAt (bk_X12_greatestAt_0 (go (M 174 3).toNat 0 0 (Nat.zero_add _) rfl))
theorem sp_manyAt {d : Nat} {M : am_M} {f : Int → am_M → Prop} {r : Int} (hc : rf_cn M) (hr : ro_ok M r) (h : f (pu_many (ro M r) (M 174 3).toNat) M) : am_cal pg (d + 2) 223 [(2, 152), (0, r)] sh_T M (am_c0 sh_T f) := by
  obtain ⟨r0, r1, hw⟩ := hr
  obtain ⟨c0, c1⟩ := hc
  have go : ∀ (n k : Nat) (x : Int), k + n = (M 174 3).toNat → x = pu_many (ro M r) k → am_g 12 0 co_X12_manyAt (d + 1) (am_c0 sh_T f) 4 [(2, 152), (0, r), (0, x), (0, (k : Int))] [] sh_T M := by
    intro n
    induction n with
    | zero =>
      intro k x hk hx
      exact bk_X12_manyAt_4 (sp_dreadMany ⟨fun _ => am_c0_i (by rw [hx, show k = (M 174 3).toNat by omega]; exact h), fun c => by omega⟩)
    | succ n ih =>
      intro k x hk hx
      have hb := pu_many_le (w := ro M r) k
      refine bk_X12_manyAt_4 (sp_dreadMany ⟨fun c => by omega, fun c => ⟨⟨by omega, by omega⟩, ⟨by omega, by omega⟩, fun c2 => ⟨⟨by omega, by omega⟩, ih (k + 1) _ (by omega) ?_⟩, fun c2 => ⟨⟨by omega, by omega⟩, ⟨by omega, by omega⟩, ih (k + 1) _ (by omega) ?_⟩⟩⟩)
      · show x = pu_many (ro M r) k + (if 0 < ro M r k then 1 else 0)
        rw [if_neg (by show ¬ 0 < M 187 (r + k); omega), hx, Int.add_zero]
      · show _ = pu_many (ro M r) k + (if 0 < ro M r k then 1 else 0)
        rw [if_pos (show 0 < M 187 (r + k) from c2), hx]
  exact en_X12_manyAt (bk_X12_manyAt_0 (go (M 174 3).toNat 0 0 (Nat.zero_add _) rfl))
theorem sp_isHomeAt {d : Nat} {M : am_M} {f : Int → am_M → Prop} {r : Int} (hc : rf_cn M) (hr : ro_ok M r) (h : f (am_b (pu_sum (ro M r) (M 174 3).toNat ≤ M 179 3)) M) : am_cal pg (d + 3) 224 [(2, 152), (0, r)] sh_T M (am_c0 sh_T f) :=
  en_X12_isHomeAt (bk_X12_isHomeAt_0 (sp_sumAt hc hr (sp_settingOf (by decide) (by decide) ⟨fun q => am_c0_i (by rw [am_b_0 (by have : M 179 3 < pu_sum (ro M r) (M 174 3).toNat := q; omega)] at h; exact h), fun q => am_c0_i (by rw [am_b_1 (show pu_sum (ro M r) (M 174 3).toNat ≤ M 179 3 from q)] at h; exact h)⟩)))
theorem sp_counts {d : Nat} {M : am_M} {f : Int → am_M → Prop} {w k g : Int} (hw : 0 ≤ w ∧ w ≤ 999) (hg : -1 ≤ g ∧ g < 4) (h : f (pu_cnt g (M 178 (4 + g)) w k) M) : am_cal pg (d + 1) 225 [(2, 152), (0, w), (0, k), (0, g)] sh_T M (am_c0 sh_T f) := by
  have e2 : w.tdiv 2 = w / 2 := Int.tdiv_eq_ediv_of_nonneg hw.1
  unfold pu_cnt at h
  refine en_X12_counts (bk_X12_counts_0 ⟨fun q => ⟨⟨by omega, by omega⟩, ⟨by omega, by omega⟩, fun q2 => ⟨by rw [e2]; exact ⟨by omega, by omega⟩, am_c0_i ?_⟩, fun q2 => ⟨⟨by omega, by omega⟩, am_c0_i ?_⟩⟩, fun q => am_c0_i ?_⟩)
  · rw [if_neg q, if_neg q2] at h; exact h
  · rw [if_neg q, if_pos q2] at h; exact h
  · rw [if_pos q] at h; exact h
/-- what the dreads of a row count -/
abbrev ro_cnt (M : am_M) (r g : Int) : Int → Int := fun k => pu_cnt g (M 178 (4 + g)) (ro M r k) k
theorem sp_worstAt {d : Nat} {M : am_M} {f : Int → am_M → Prop} {r g but : Int} (hc : rf_cn M) (hr : ro_ok M r) (hg : -1 ≤ g ∧ g < 4) (h : f (pu_wo (ro_cnt M r g) but (M 174 3).toNat) M) : am_cal pg (d + 2) 226 [(2, 152), (0, r), (0, g), (0, but)] sh_T M (am_c0 sh_T f) := by
  obtain ⟨r0, r1, hw⟩ := hr
  obtain ⟨c0, c1⟩ := hc
  have go : ∀ (n k : Nat) (b : Int), k + n = (M 174 3).toNat → b = pu_wo (ro_cnt M r g) but k → am_g 12 0 co_X12_worstAt (d + 1) (am_c0 sh_T f) 6 [(2, 152), (0, r), (0, g), (0, but), (0, b), (0, (k : Int))] [] sh_T M := by
    intro n
    induction n with
    | zero =>
      intro k b hk hb
      exact bk_X12_worstAt_6 (sp_dreadMany ⟨fun _ => am_c0_i (by rw [hb, show k = (M 174 3).toNat by omega]; exact h), fun c => by omega⟩)
    | succ n ih =>
      intro k b hk hb
      have hl := pu_wo_le (v := ro_cnt M r g) (but := but) k
      rw [← hb] at hl
      have e : ∀ x : Int, x = (if (k : Int) = but then b else if b = -1 then (k : Int) else if ro_cnt M r g b < ro_cnt M r g k then (k : Int) else b) → x = pu_wo (ro_cnt M r g) but (k + 1) := by
        intro x hx
        show x = (if (k : Int) = but then pu_wo (ro_cnt M r g) but k else if pu_wo (ro_cnt M r g) but k = -1 then (k : Int) else if ro_cnt M r g (pu_wo (ro_cnt M r g) but k) < ro_cnt M r g k then (k : Int) else pu_wo (ro_cnt M r g) but k)
        rw [← hb]; exact hx
      refine bk_X12_worstAt_6 (sp_dreadMany ⟨fun c => by omega, fun c => ⟨fun q => ⟨fun q2 => ⟨⟨by omega, by omega⟩, ih (k + 1) _ (by omega) (e _ (by rw [if_neg q, if_pos q2]))⟩, fun q2 => ⟨⟨by omega, by omega⟩, ⟨by omega, by omega⟩, sp_counts (hw k (by omega) (by omega)) hg ⟨⟨by omega, by omega⟩, ⟨by omega, by omega⟩, sp_counts (hw b (by omega) (by omega)) hg ⟨fun q3 => ⟨⟨by omega, by omega⟩, ih (k + 1) _ (by omega) (e _ ?_)⟩, fun q3 => ⟨⟨by omega, by omega⟩, ih (k + 1) _ (by omega) (e _ ?_)⟩⟩⟩⟩⟩, fun q => ⟨⟨by omega, by omega⟩, ih (k + 1) _ (by omega) (e _ (by rw [if_pos q]))⟩⟩⟩)
      · have q3' : ro_cnt M r g k ≤ ro_cnt M r g b := q3
        rw [if_neg q, if_neg q2, if_neg (by omega)]
      · have q3' : ro_cnt M r g b < ro_cnt M r g k := q3
        rw [if_neg q, if_neg q2, if_pos q3']
  exact en_X12_worstAt (bk_X12_worstAt_0 (go (M 174 3).toNat 0 (-1) (Nat.zero_add _) rfl))
