/-! THE REFERENCE'S READER, against what is read as a value: its small steps -/
/-- the words that the reference holds -/
def rws : List (Int × List Int) := [(155, w_dread), (156, w_dreamer), (157, w_brave), (158, w_fears), (159, w_guide), (160, w_of), (161, w_meet), (162, w_shun), (163, w_byday), (164, w_home), (165, w_laugh), (166, w_spite), (167, w_weigh), (168, w_worst), (169, w_sum), (170, w_many), (171, w_number), (172, w_min), (173, w_max), (193, w_first), (194, w_lst), (195, w_often), (196, w_total), (197, w_most), (198, w_least), (199, w_not), (200, w_and), (201, w_or), (202, w_all), (203, w_min), (204, w_max), (205, w_room), (206, w_dread), (207, w_worst), (208, w_sum), (209, w_many), (210, w_weigh)]
def rw_all (M : am_M) : Prop := ∀ x ∈ rws, rf_word M x.1 x.2
theorem rws_in : ∀ x ∈ rws, 155 ≤ x.1 ∧ x.1 ≤ 210 ∧ ¬ x.1 = 182 ∧ ¬ x.1 = 183 := by decide +kernel
/-- what the reader may write -/
def rp_fr (M0 M : am_M) : Prop := ∀ x j, ¬ (x = 182 ∧ 0 ≤ j ∧ j < 1600) → ¬ x = 183 → ¬ x = 211 → ¬ x = 212 → ¬ (x = 152 ∧ (j = 2 ∨ (4 ≤ j ∧ j ≤ 6) ∨ j = 29 ∨ j = 40 ∨ (42 ≤ j ∧ j ≤ 44) ∨ j = 83 ∨ (85 ≤ j ∧ j ≤ 87))) → M x j = M0 x j
theorem rp_rf {M : am_M} : rp_fr M M := fun _ _ _ _ _ _ _ => rfl
theorem rp_tr {M M1 M2 : am_M} (h : rp_fr M M1) (k : rp_fr M1 M2) : rp_fr M M2 := fun x j a b c d f => (k x j a b c d f).trans (h x j a b c d f)
/-- text alone -/
def tf_ (M M' : am_M) : Prop := ∀ x j, ¬ (x = 152 ∧ (j = 2 ∨ j = 4 ∨ j = 29)) → M' x j = M x j
theorem tf_rf {M : am_M} : tf_ M M := fun _ _ _ => rfl
theorem tf_tr {M M1 M2 : am_M} (h : tf_ M M1) (k : tf_ M1 M2) : tf_ M M2 := fun x j a => (k x j a).trans (h x j a)
/-- text and faults alone -/
def tg_ (M M' : am_M) : Prop := ∀ x j, ¬ (x = 152 ∧ (j = 2 ∨ (4 ≤ j ∧ j ≤ 6) ∨ j = 29)) → M' x j = M x j
def rx_ (M0 M : am_M) (p en : Int) : Prop := rp_fr M0 M ∧ rf_ok M ∧ rf_p M = p ∧ M 152 4 = en ∧ (M 152 5 = 0 ∧ M 152 6 = -1)
def ru_ (M0 M : am_M) (k z : Int) : Prop := rp_fr M0 M ∧ rf_ok M ∧ M 152 5 = k ∧ M 152 6 = z ∧ ¬ k = 0
def bnd_ : Nat → Int → Int
  | 0, b => b
  | n + 1, b => bnd_ n (10 * b + 9)
theorem bnd_ge : ∀ (n : Nat) (b : Int), 0 ≤ b → b ≤ bnd_ n b
  | 0, b, _ => Int.le_refl _
  | n + 1, b, h => by
    have h2 := bnd_ge n (10 * b + 9) (by omega)
    show b ≤ bnd_ n (10 * b + 9)
    omega
theorem rd_num_bd {t : Int → Int} {e : Int} : ∀ (n : Nat) (i v b : Int), 0 ≤ v → v ≤ b → 0 ≤ (rd_num t e n i v).1 ∧ (rd_num t e n i v).1 ≤ bnd_ n b
  | 0, i, v, b, h0, hb => ⟨h0, hb⟩
  | n + 1, i, v, b, h0, hb => by
    unfold rd_num
    by_cases c : is_di (rd_by t e i) = true
    · rw [if_pos c]
      obtain ⟨c1, c2, c3, c4, c5⟩ := rd_by_di c
      exact rd_num_bd n (i + 1) (10 * v + t i - 48) (10 * b + 9) (by omega) (by omega)
    · rw [if_neg c]
      exact ⟨h0, Int.le_trans hb (bnd_ge (n + 1) b (by omega))⟩
section RT
variable {M0 M : am_M} {p en : Int}
theorem rp_t (h : rp_fr M0 M) : M 153 = M0 153 ∧ M 152 3 = M0 152 3 := ⟨funext fun j => h 153 j (by omega) (by omega) (by omega) (by omega) (by omega), h 152 3 (by omega) (by omega) (by omega) (by omega) (by omega)⟩
theorem rw_of (hw : rw_all M0) (h : rp_fr M0 M) {a : Int} {w : List Int} (hx : (a, w) ∈ rws) : rf_word M a w ∧ ¬ a = 152 := by
  obtain ⟨h1, h2, h3, h4⟩ := hw (a, w) hx
  have hi := rws_in (a, w) hx
  have hi : 155 ≤ a ∧ a ≤ 210 ∧ ¬ a = 182 ∧ ¬ a = 183 := hi
  refine ⟨⟨h1, h2, fun i hl => ?_, h4⟩, by omega⟩
  rw [h a i (by omega) (by omega) (by omega) (by omega) (by omega)]
  exact h3 i hl
theorem rx_in (h : rx_ M0 M p en) : 0 ≤ p ∧ p ≤ M0 152 3 ∧ rd_at (M0 153) (M0 152 3) p = p ∧ M0 152 3 ≤ 1600 ∧ rf_c M = rc (M0 153) (M0 152 3) p := by
  obtain ⟨h1, h2, h3, h4, h5⟩ := h
  obtain ⟨e1, e2⟩ := rp_t h1
  have hp := rf_p_le h2
  have h0 := h2.2.1
  have h16 := h2.1
  rw [e2] at h16 hp
  have er : rd_at (M0 153) (M0 152 3) p = p := by
    have : rd_at (M0 153) (M0 152 3) (M 152 2) = p := by rw [← e1, ← e2]; exact h3
    rw [← this]
    exact rd_at_at
  refine ⟨by omega, by omega, er, h16, ?_⟩
  show (if rd_at (M 153) (M 152 3) (M 152 2) < M 152 3 then M 153 (rd_at (M 153) (M 152 3) (M 152 2)) else -1) = _
  rw [show rd_at (M 153) (M 152 3) (M 152 2) = p from h3, e1, e2]
  rfl
theorem rx_at (h : rx_ M0 M p en) {M' : am_M} {j en' : Int} (h1 : M' 152 2 = j) (h2 : M' 152 4 = en') (h0 : 0 ≤ j ∧ j ≤ M0 152 3) (hf : tf_ M M') : rx_ M0 M' (rd_at (M0 153) (M0 152 3) j) en' := by
  obtain ⟨g1, g2, g3, g4, g5⟩ := h
  have f1 : rp_fr M0 M' := rp_tr g1 (fun x j a b c d f => hf x j (by omega))
  obtain ⟨e3, e4⟩ := rp_t f1
  refine ⟨f1, ⟨?_, ?_, ?_⟩, ?_, h2, ?_⟩
  · rw [hf 152 3 (by omega)]; exact g2.1
  · rw [h1]; exact h0.1
  · rw [h1, e4]; exact h0.2
  · show rd_at (M' 153) (M' 152 3) (M' 152 2) = _
    rw [e3, e4, h1]
  · rw [hf 152 5 (by omega), hf 152 6 (by omega)]; exact g5
theorem rx_p (h : rx_ M0 M p en) : rx_ M0 (am_up M 152 2 (rf_p M)) p en ∧ am_up M 152 2 (rf_p M) 152 2 = p ∧ tf_ M (am_up M 152 2 (rf_p M)) := by
  obtain ⟨i1, i2, i3, i4, -⟩ := rx_in h
  have f : tf_ M (am_up M 152 2 (rf_p M)) := fun x j y => am_up_el (by omega)
  refine ⟨?_, am_up_at.trans h.2.2.1, f⟩
  have r := rx_at h (M' := am_up M 152 2 (rf_p M)) (j := p) (en' := en) (am_up_at.trans h.2.2.1) ((am_up_el (by omega)).trans h.2.2.2.1) ⟨i1, i2⟩ f
  rw [i3] at r
  exact r
theorem rf_bl_el {k z x j : Int} (h : ¬ (x = 152 ∧ (j = 5 ∨ j = 6))) : rf_bl M k z x j = M x j := by
  unfold rf_bl
  split
  · rw [am_up_el (by omega), am_up_el (by omega)]
  · rfl
theorem rx_bl (h : rx_ M0 M p en) {k z : Int} (hk : ¬ k = 0) : ru_ M0 (rf_bl M k z) k z := by
  obtain ⟨g1, g2, g3, g4, g5⟩ := h
  rw [rf_bl_0 g5.1]
  refine ⟨fun x j a b c d f => ?_, ⟨?_, ?_, ?_⟩, ?_, ?_, hk⟩
  · rw [am_up_el (by omega), am_up_el (by omega)]; exact g1 x j a b c d f
  · rw [am_up_el (by omega), am_up_el (by omega)]; exact g2.1
  · rw [am_up_el (by omega), am_up_el (by omega)]; exact g2.2.1
  · rw [am_up_el (by omega), am_up_el (by omega), am_up_el (by omega), am_up_el (by omega)]; exact g2.2.2
  · rw [am_up_el (by omega), am_up_at]
  · rw [am_up_at]
theorem rt_look {d : Nat} {f : Int → am_M → Prop} (h : rx_ M0 M p en) (hf : ∀ M', rx_ M0 M' p en → M' 152 2 = p → tf_ M M' → f (rc (M0 153) (M0 152 3) p) M') : am_cal pg (d + 1) 175 [(2, 152)] sh_T M (am_c0 sh_T f) := by
  refine sp_look h.2.1 ?_
  rw [(rx_in h).2.2.2.2]
  obtain ⟨a, b, c⟩ := rx_p h
  exact hf _ a b c
theorem rt_here {d : Nat} {f : Int → am_M → Prop} {a : Int} {w : List Int} (hw : rw_all M0) (hx : (a, w) ∈ rws) (h : rx_ M0 M p en) (hf : ∀ M', rx_ M0 M' p en → M' 152 2 = p → tf_ M M' → f (am_b (rd_is (M0 153) (M0 152 3) en p w = true)) M') : am_cal pg (d + 2) 176 [(2, 152), (2, a)] sh_T M (am_c0 sh_T f) := by
  obtain ⟨w1, w2⟩ := rw_of hw h.1 hx
  obtain ⟨e1, e2⟩ := rp_t h.1
  refine sp_isHere h.2.1 h.2.2.2.2.1 w1 w2 ?_
  rw [e1, e2, show rf_p M = p from h.2.2.1, show M 152 4 = en from h.2.2.2.1]
  obtain ⟨a, b, c⟩ := rx_p h
  rw [show rf_p M = p from h.2.2.1] at a b c
  exact hf _ a b c
theorem rx_sk (h : rx_ M0 M p en) {w : List Int} (hw : rd_is (M0 153) (M0 152 3) en p w = true) : rx_ M0 (rf_sk M w) (rd_at (M0 153) (M0 152 3) (p + rd_wd (M0 153) (M0 152 3) en p)) (p + rd_wd (M0 153) (M0 152 3) en p) ∧ tf_ M (rf_sk M w) := by
  obtain ⟨i1, i2, i3, i4, -⟩ := rx_in h
  have hl := rd_wd_le (t := M0 153) (en := en) i2
  have ew := rd_is_len hw
  have f : tf_ M (rf_sk M w) := fun x j y => by unfold rf_sk; rw [am_up_el (by omega), am_up_el (by omega)]
  refine ⟨rx_at h ?_ ?_ (by omega) f, f⟩
  · unfold rf_sk
    rw [am_up_el (by omega), am_up_at, show rf_p M = p from h.2.2.1, ew]
  · unfold rf_sk
    rw [am_up_at, show rf_p M = p from h.2.2.1, ew]
theorem rt_takes {d : Nat} {f : Int → am_M → Prop} {a : Int} {w : List Int} (hw : rw_all M0) (hx : (a, w) ∈ rws) (h : rx_ M0 M p en) (h1 : rd_is (M0 153) (M0 152 3) en p w = true → ∀ M', rx_ M0 M' (rd_at (M0 153) (M0 152 3) (p + rd_wd (M0 153) (M0 152 3) en p)) (p + rd_wd (M0 153) (M0 152 3) en p) → tf_ M M' → f 1 M') (h2 : ¬ rd_is (M0 153) (M0 152 3) en p w = true → ∀ M', rx_ M0 M' p en → M' 152 2 = p → tf_ M M' → f 0 M') : am_cal pg (d + 3) 177 [(2, 152), (2, a)] sh_T M (am_c0 sh_T f) := by
  obtain ⟨w1, w2⟩ := rw_of hw h.1 hx
  obtain ⟨e1, e2⟩ := rp_t h.1
  have ei : rf_is M w ↔ rd_is (M0 153) (M0 152 3) en p w = true := by
    show (rd_is (M 153) (M 152 3) (M 152 4) (rf_p M) w = true) ↔ _
    rw [e1, e2, show rf_p M = p from h.2.2.1, show M 152 4 = en from h.2.2.2.1]
  refine sp_takes h.2.1 h.2.2.2.2.1 w1 w2 (fun z => ?_) (fun z => ?_)
  · obtain ⟨a, b⟩ := rx_sk h (ei.mp z)
    exact h1 (ei.mp z) _ a b
  · obtain ⟨a, b, c⟩ := rx_p h
    exact h2 (fun y => z (ei.mpr y)) _ a b c
theorem rt_asks {d : Nat} {f : am_M → Prop} {a : Int} {w : List Int} (hw : rw_all M0) (hx : (a, w) ∈ rws) (h : rx_ M0 M p en) (h1 : rd_is (M0 153) (M0 152 3) en p w = true → ∀ M', rx_ M0 M' (rd_at (M0 153) (M0 152 3) (p + rd_wd (M0 153) (M0 152 3) en p)) (p + rd_wd (M0 153) (M0 152 3) en p) → tf_ M M' → f M') (h2 : ¬ rd_is (M0 153) (M0 152 3) en p w = true → ∀ M', ru_ M0 M' 1 p → f M') : am_cal pg (d + 4) 178 [(2, 152), (2, a)] sh_T M (am_cv sh_T f) := by
  obtain ⟨w1, w2⟩ := rw_of hw h.1 hx
  obtain ⟨e1, e2⟩ := rp_t h.1
  have ei : rf_is M w ↔ rd_is (M0 153) (M0 152 3) en p w = true := by
    show (rd_is (M 153) (M 152 3) (M 152 4) (rf_p M) w = true) ↔ _
    rw [e1, e2, show rf_p M = p from h.2.2.1, show M 152 4 = en from h.2.2.2.1]
  refine sp_asks h.2.1 h.2.2.2.2.1 w1 w2 (fun z => ?_) (fun z => ?_)
  · obtain ⟨a, b⟩ := rx_sk h (ei.mp z)
    exact h1 (ei.mp z) _ a b
  · obtain ⟨a, b, c⟩ := rx_p h
    have r := rx_bl a (k := 1) (z := p) (by decide)
    rw [show rf_p M = p from h.2.2.1] at r ⊢
    exact h2 (fun y => z (ei.mpr y)) _ r
theorem rt_sign {d : Nat} {f : Int → am_M → Prop} {c : Int} (hc : 0 ≤ c) (h : rx_ M0 M p en) (h1 : rc (M0 153) (M0 152 3) p = c → ∀ M', rx_ M0 M' (rd_at (M0 153) (M0 152 3) (p + 1)) en → M' 152 2 = p + 1 → tf_ M M' → f 1 M') (h2 : ¬ rc (M0 153) (M0 152 3) p = c → ∀ M', rx_ M0 M' p en → M' 152 2 = p → tf_ M M' → f 0 M') : am_cal pg (d + 2) 179 [(2, 152), (0, c)] sh_T M (am_c0 sh_T f) := by
  obtain ⟨i1, i2, i3, i4, i5⟩ := rx_in h
  refine sp_takesSign h.2.1 h.2.2.2.2.1 (fun z => ?_) (fun z => ?_)
  · rw [i5] at z
    have hlt := (rc_lt z hc).1
    have fr : tf_ M (am_up M 152 2 (rf_p M + 1)) := fun x j y => am_up_el (by omega)
    have e2 : am_up M 152 2 (rf_p M + 1) 152 2 = p + 1 := by rw [am_up_at, show rf_p M = p from h.2.2.1]
    exact h1 z _ (rx_at h e2 ((am_up_el (by omega)).trans h.2.2.2.1) (by omega) fr) e2 fr
  · rw [i5] at z
    obtain ⟨a, b, c⟩ := rx_p h
    exact h2 z _ a b c
theorem rt_asksSign {d : Nat} {f : am_M → Prop} {c : Int} (hc : 0 ≤ c) (h : rx_ M0 M p en) (h1 : rc (M0 153) (M0 152 3) p = c → ∀ M', rx_ M0 M' (rd_at (M0 153) (M0 152 3) (p + 1)) en → tf_ M M' → f M') (h2 : ¬ rc (M0 153) (M0 152 3) p = c → ∀ M', ru_ M0 M' 1 p → f M') : am_cal pg (d + 3) 180 [(2, 152), (0, c)] sh_T M (am_cv sh_T f) := by
  obtain ⟨i1, i2, i3, i4, i5⟩ := rx_in h
  refine sp_asksSign h.2.1 h.2.2.2.2.1 (fun z => ?_) (fun z => ?_)
  · rw [i5] at z
    have hlt := (rc_lt z hc).1
    have fr : tf_ M (am_up M 152 2 (rf_p M + 1)) := fun x j y => am_up_el (by omega)
    have e2 : am_up M 152 2 (rf_p M + 1) 152 2 = p + 1 := by rw [am_up_at, show rf_p M = p from h.2.2.1]
    exact h1 z _ (rx_at h e2 ((am_up_el (by omega)).trans h.2.2.2.1) (by omega) fr) fr
  · rw [i5] at z
    obtain ⟨a, b, c⟩ := rx_p h
    have r := rx_bl a (k := 1) (z := p) (by decide)
    rw [show rf_p M = p from h.2.2.1] at r ⊢
    exact h2 z _ r
theorem rt_num {d : Nat} {f : Int → am_M → Prop} {g : Int} (hg0 : 0 ≤ g) (h : rx_ M0 M p en) (h1 : ∀ k z, pr_num (M0 153) (M0 152 3) g p en = .error (k, z) → ∀ x M', 0 ≤ x → x ≤ 9999 → ru_ M0 M' k z → tg_ M M' → f x M') (h2 : ∀ p1 en1 w, pr_num (M0 153) (M0 152 3) g p en = .ok (p1, en1, w) → ∀ M', rx_ M0 M' p1 en1 → tf_ M M' → f w M') : am_cal pg (d + 3) 181 [(2, 152), (0, 0), (0, g)] sh_T M (am_c0 sh_T f) := by
  obtain ⟨i1, i2, i3, i4, i5⟩ := rx_in h
  have e : rf_p M = p := h.2.2.1
  have e5 : M 152 4 = en := h.2.2.2.1
  obtain ⟨et, ee⟩ := rp_t h.1
  unfold pr_num at h1 h2
  have en2 : rf_nm M = rd_num (M0 153) (M0 152 3) 4 p 0 := by
    show rd_num (M 153) (M 152 3) 4 (rf_p M) 0 = _
    rw [et, ee, e]
  have bad : (¬ is_di (rf_c M) = true ∨ rf_p M = M 152 4) → f 0 (rf_bl (am_up M 152 2 (rf_p M)) 1 (rf_p M)) := fun z => by
    rw [i5, e, e5] at z
    rw [if_neg (fun y => z.elim (fun y2 => y2 y.1) (fun y2 => y.2 y2))] at h1
    obtain ⟨a, b, c⟩ := rx_p h
    have r := rx_bl a (k := 1) (z := p) (by decide)
    rw [e] at r ⊢
    exact h1 1 p rfl 0 _ (by decide) (by decide) r (fun x j y => (rf_bl_el (by omega)).trans (am_up_el (by omega)))
  have four : ∀ (t : Int → Int) (e i : Int), 0 ≤ (rd_num t e 4 i 0).1 ∧ (rd_num t e 4 i 0).1 ≤ 9999 := fun t e i => rd_num_bd 4 i 0 0 (by decide) (by decide)
  have hf4 := four (M0 153) (M0 152 3) p
  refine sp_number hg0 h.2.1 h.2.2.2.2.1 bad (fun z z2 z3 => ?_) (fun z z2 z3 => ?_)
  all_goals
    rw [i5] at z
    rw [e, e5] at z2
    rw [en2, et, ee] at z3
    rw [if_pos ⟨z, z2⟩] at h1 h2
    rw [en2]
    have hd := is_di_iff.mp z
    have hl := rc_lt (c := rc (M0 153) (M0 152 3) p) rfl (by omega)
    have hn4 := rd_num_le (t := M0 153) (e := M0 152 3) 4 p 0
    generalize rd_num (M0 153) (M0 152 3) 4 p 0 = r at h1 h2 hn4 z3 hf4 ⊢
    obtain ⟨w, j⟩ := r
    have hn4 : p ≤ j ∧ (j ≤ M0 152 3 ∨ j = p) ∧ (0 ≤ (0 : Int) → 0 ≤ w) := hn4
    have hj : 0 ≤ j ∧ j ≤ M0 152 3 := by rcases hn4.2.1 with y | y <;> omega
    have hf4 : 0 ≤ w ∧ w ≤ 9999 := hf4
    have a1 : rx_ M0 (am_up M 152 2 j) (rd_at (M0 153) (M0 152 3) j) en := rx_at h am_up_at ((am_up_el (by omega)).trans e5) hj (fun x y z => am_up_el (by omega))
  · have z3 : is_di (rd_by (M0 153) (M0 152 3) j) = true := z3
    rw [if_pos z3] at h1
    exact h1 1 j rfl 0 _ (by decide) (by decide) (rx_bl a1 (by decide)) (fun x i y => (rf_bl_el (by omega)).trans (am_up_el (by omega)))
  · have z3 : ¬ is_di (rd_by (M0 153) (M0 152 3) j) = true := z3
    rw [if_neg z3] at h1 h2
    have fr : tf_ M (am_up (am_up M 152 2 j) 152 4 j) := fun x y z => by rw [am_up_el (by omega), am_up_el (by omega)]
    have a2 : rx_ M0 (am_up (am_up M 152 2 j) 152 4 j) (rd_at (M0 153) (M0 152 3) j) j := rx_at h ((am_up_el (by omega)).trans am_up_at) am_up_at hj fr
    show f w (rf_nb (am_up (am_up M 152 2 j) 152 4 j) g (rf_p M) w)
    unfold rf_nb
    rw [e]
    by_cases c2 : g < w
    · rw [if_pos c2] at h1
      rw [if_pos c2]
      exact h1 2 p rfl w _ hf4.1 hf4.2 (rx_bl a2 (by decide)) (fun x i y => (rf_bl_el (by omega)).trans (fr x i (by omega)))
    · rw [if_neg c2] at h2
      rw [if_neg c2]
      exact h2 _ _ w rfl _ a2 fr
/-- behind a fault nothing more is read -/
theorem ru_number {d : Nat} {f : Int → am_M → Prop} {g k z : Int} (h : ru_ M0 M k z) (hf : f 0 M) : am_cal pg (d + 1) 181 [(2, 152), (0, 0), (0, g)] sh_T M (am_c0 sh_T f) := sp_number_bad (by rw [h.2.2.1]; exact h.2.2.2.2) hf
theorem ru_b {k z : Int} (h : ru_ M0 M k z) : ¬ M 152 5 = 0 := by rw [h.2.2.1]; exact h.2.2.2.2
/-- a memory that differs by reader's cells alone, behind a fault -/
theorem ru_fr {M' : am_M} {k z : Int} (h : ru_ M0 M k z) (hf : ∀ x j, ¬ (x = 182 ∧ 0 ≤ j ∧ j < 1600) → ¬ x = 183 → ¬ x = 211 → ¬ x = 212 → ¬ (x = 152 ∧ (j = 2 ∨ j = 4 ∨ j = 29 ∨ j = 40 ∨ (42 ≤ j ∧ j ≤ 44) ∨ j = 83 ∨ (85 ≤ j ∧ j ≤ 87))) → M' x j = M x j) (h0 : 0 ≤ M' 152 2 ∧ M' 152 2 ≤ M0 152 3) : ru_ M0 M' k z := by
  obtain ⟨g1, g2, g3, g4, g5⟩ := h
  have e3 := (rp_t g1).2
  have f1 : rp_fr M0 M' := rp_tr g1 (fun x j a b c d f => hf x j a b c d (by omega))
  refine ⟨f1, ⟨?_, h0.1, ?_⟩, ?_, ?_, g5⟩
  · rw [hf 152 3 (by omega) (by omega) (by omega) (by omega) (by omega)]; exact g2.1
  · rw [(rp_t f1).2]; exact h0.2
  · rw [hf 152 5 (by omega) (by omega) (by omega) (by omega) (by omega)]; exact g3
  · rw [hf 152 6 (by omega) (by omega) (by omega) (by omega) (by omega)]; exact g4
end RT
