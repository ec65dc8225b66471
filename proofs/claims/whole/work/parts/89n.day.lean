/-! DAY, TAKE, SET -/
theorem ac_day {d n : Nat} {M : am_M} {D : dm_D} {G : Int → Int} {W : Int → Int → Int} {a b : Int} (hn : n < 600) (h : at_ok n M D G W) : tr_two (d + 7) 147 268 [(0, a), (0, b)] M (at_P n M D) := by
  have h3 := h.1.2.2.1
  have hcn := rg_cn h.1.2.1
  obtain ⟨m, hh, c1, c2, c3, c4, c5⟩ := h.2.1
  obtain ⟨r1, r2, r3, r4, r5, r6, r7, r8⟩ := re_bt (k := 2) hn h (by decide)
  have no : ∀ M1, sc_fr (am_up M 151 2 (M 151 2 + 1)) M1 → am_cal pg (d + 6) 266 [(2, 152)] sh_T M1 (am_c0 sh_T fun x M2 => am_c0 sh_T (fun y M2 => (-1 : Int) = y ∧ at_P n M D M2) (some (0, x), sh_T, M2)) := fun M1 k => by
    refine sp_refuses ?_ (am_c0_i ⟨rfl, at_re h (by decide) k⟩)
    rw [k 154 2 (by unfold sc_; omega), r4]; exact r5 2 (by decide) (by decide)
  refine en_X11_day (bk_X11_day_0 (st_isDreamer h.1 ⟨fun q => ?_, fun q => st_isDread h.1 ⟨fun q2 => ?_, fun q2 => ?_⟩⟩))
  · refine cl_re (mr := 0) (As := []) hn h (by decide) (am_c0_i ⟨r7, en_X12_day (bk_X12_day_0 (sp_isDreamer r2 ⟨fun _ => no _ sc_rf, fun y => ?_⟩))⟩)
    rw [r3] at y
    exact absurd q y
  · have ha := am_b_nz q
    have hbb := am_b_nz q2
    have ha4 : 0 ≤ a ∧ a < 4 ∧ a < dA D := by omega
    have hbD : 0 ≤ b ∧ b < dN D := by have := h.1.2.1.2.1; omega
    have h6 := h.1.2.1.1.1
    have h5 := h.1.2.2.2.2 a ha.1 (by omega)
    have hcc := h.1.1.1
    refine ⟨v4 ha4, st_keeps c3 (by omega) h5.1 (fun M1 k1 e1 e88 => ?_)⟩
    have eD : M1 0 4 = M 0 4 := e1 0 4 (by omega)
    have hcr := dm_range h.1.1
    have d1 : dm_ok M1 (M 0 4) D := dm_ok_fr (fun x j x1 x2 x3 x4 x5 x6 => e1 x j (by omega)) h.1.1
    have fs : ∀ x j, 37 ≤ x → x ≤ 45 → M1 x j = M x j := fun x j y z => e1 x j (by omega)
    have s1 : sm_ok M1 D (37 + 1 + 2 * a) a (G a) (W a) := sm_ok_fr (fs _ _ (by omega) (by omega)) (fs _ _ (by omega) (by omega)) (fun j => fs _ _ (by omega) (by omega)) h5.1
    rw [eD]
    refine ⟨dr_ob hcc, st_dayed d1 s1 hbD (fun M2 f2 d2 s2 => ⟨s2.1.1, st_at s2.1 (am_c0_i ⟨?_, ?_⟩)⟩)⟩
    · intro j
      exact (kc_bt h (en_kc c3 ha4 hcc k1 f2) ha4).2.2.2.2.2.2.2.2.2 j
    · have k2 := en_kc c3 ha4 hcc k1 f2
      obtain ⟨t1, t2, t3, t4, t5, t6, t7, t8, t9, t10⟩ := kc_bt h k2 ha4
      have l2 : M2 0 17 = M 0 17 := (f2 0 17 (by omega) (by omega) (by omega) (by omega) (by omega)).trans (e1 0 17 (by omega))
      rw [if_pos ⟨by omega, by omega⟩, s2.2.2.2.1 b (by omega) (by omega)]
      refine en_X12_day (bk_X12_day_0 (sp_isDreamer t3 ⟨fun y => ?_, fun _ => sp_isDread (rg_cn t1) ⟨fun y => ?_, fun y => ?_⟩⟩))
      · rw [t4] at y
        exact absurd ha (am_b_z.mp y)
      · refine sp_keepss (a := a) t7 t8 (fun M3 k3 f3 => ?_)
        have g3 : rg_is M3 D := rg_is_fr (fun x j x1 x2 => f3 x j (by omega) (by omega)) t1
        have s3 : rs_ok M3 D a (G a) (W a) := rs_ok_fr (fun j => f3 186 j (by omega) (by omega)) t2
        refine sp_lays g3 s3 (fun M4 f4 g4 s4 w4 => sp_mk g4 w4 ha4 ⟨by omega, by omega⟩ (by decide) (fun M5 f5 => ⟨⟨by omega, by omega⟩, ?_⟩))
        have x5 := pu_made_le (o := dO D 2) (n := 6) (b := dB D a) s4.2.2.2.1 (k := b) ⟨by omega, by omega⟩
        have w5 : rw_ok (am_up M5 187 b (pu_made (dO D 2) (W a) 6 b (dB D a))) D 0 (pu_up (W a) b (pu_made (dO D 2) (W a) 6 b (dB D a))) := rw_put (rw_fr (fun k k0 k1 => f5 187 _ (by omega) (by omega) (by omega)) w4) hbD.2 x5 (by omega)
        have s5 : rs_ok (am_up M5 187 b (pu_made (dO D 2) (W a) 6 b (dB D a))) D a (G a) (W a) := rs_ok_fr (fun j => (am_up_el (by omega)).trans (f5 186 j (by omega) (by omega) (by omega))) s4
        refine sp_nows s5 w5 (fun M6 f6 s6 => am_c0_i ⟨?_, ?_⟩)
        · rw [f6 187 b (by omega), am_up_at]
          exact if_pos rfl
        · have k6 : kr_ a M2 M6 := kr_go k3 (fun x j y y2 y3 => by
            have y' := y
            unfold sc_ at y'
            exact (f6 x j y2).trans ((am_up_el (by omega)).trans ((f5 x j (by omega) (by omega) (by omega)).trans (f4 x j y))))
          refine at_done h ha4 k2 s2 k6 s6 (ac_lo (M1 := M) h ?_ ?_)
          · rw [f6 0 17 (by omega), am_up_el (by omega), f5 0 17 (by omega) (by omega) (by omega), f4 0 17 (by unfold sc_; omega), f3 0 17 (by omega) (by omega), l2]
          · rw [f6 152 60 (by omega), am_up_el (by omega), f5 152 60 (by omega) (by omega) (by omega), f4 152 60 (by unfold sc_; omega), f3 152 60 (by omega) (by omega), t9]
      · rw [t5] at y
        exact absurd hbb (am_b_z.mp y)
  · refine cl_re (mr := 0) (As := []) hn h (by decide) (am_c0_i ⟨r7, en_X12_day (bk_X12_day_0 (sp_isDreamer r2 ⟨fun _ => no _ sc_rf, fun _ => sp_isDread (rg_cn r1) ⟨fun y => ?_, fun _ => no _ sc_rf⟩⟩))⟩)
    rw [r3] at y
    exact absurd q2 y
theorem ac_set {d n : Nat} {M : am_M} {D : dm_D} {G : Int → Int} {W : Int → Int → Int} {a b x : Int} (hn : n < 600) (h : at_ok n M D G W) : tr_two (d + 7) 149 270 [(0, a), (0, b), (0, x)] M (at_P n M D) := by
  have h3 := h.1.2.2.1
  have hcn := rg_cn h.1.2.1
  obtain ⟨m, hh, c1, c2, c3, c4, c5⟩ := h.2.1
  obtain ⟨r1, r2, r3, r4, r5, r6, r7, r8⟩ := re_bt (k := 2) hn h (by decide)
  have no : ∀ M1, sc_fr (am_up M 151 2 (M 151 2 + 1)) M1 → am_cal pg (d + 6) 266 [(2, 152)] sh_T M1 (am_c0 sh_T fun x M2 => am_c0 sh_T (fun y M2 => (-1 : Int) = y ∧ at_P n M D M2) (some (0, x), sh_T, M2)) := fun M1 k => by
    refine sp_refuses ?_ (am_c0_i ⟨rfl, at_re h (by decide) k⟩)
    rw [k 154 2 (by unfold sc_; omega), r4]; exact r5 2 (by decide) (by decide)
  have noo : ¬ (0 ≤ x ∧ x ≤ 999) → am_cal pg (d + 6) 160 [(2, 0), (0, 2)] sh_T M (am_c0 sh_T fun x8 M8 => am_c0 sh_T (fun x1 M1 => (∀ j, M1 2000003 j = M 2000003 j) ∧ am_cal pg (d + 7) 270 [(2, 152), (0, a), (0, b), (0, x)] sh_T M1 (am_c0 sh_T fun y M2 => x1 = y ∧ at_P n M D M2)) (some (0, x8), sh_T, M8)) := fun z => by
    refine cl_re (mr := 0) (As := []) hn h (by decide) (am_c0_i ⟨r7, en_X12_set (bk_X12_set_0 (sp_isDreamer r2 ⟨fun _ => no _ sc_rf, fun _ => sp_isDread (rg_cn r1) ⟨fun _ => no _ sc_rf, fun _ => sp_isIn ⟨fun y => absurd (am_b_nz y) z, fun _ => no _ sc_rf⟩⟩⟩))⟩)
  refine en_X11_set (bk_X11_set_0 (st_isDreamer h.1 ⟨fun q => ?_, fun q => st_isDread h.1 ⟨fun q2 => ?_, fun q2 => ⟨fun q3 => noo (by omega), fun q3 => ⟨fun q4 => ?_, fun q4 => noo (by omega)⟩⟩⟩⟩))
  · refine cl_re (mr := 0) (As := []) hn h (by decide) (am_c0_i ⟨r7, en_X12_set (bk_X12_set_0 (sp_isDreamer r2 ⟨fun _ => no _ sc_rf, fun y => ?_⟩))⟩)
    rw [r3] at y
    exact absurd q y
  · refine cl_re (mr := 0) (As := []) hn h (by decide) (am_c0_i ⟨r7, en_X12_set (bk_X12_set_0 (sp_isDreamer r2 ⟨fun _ => no _ sc_rf, fun _ => sp_isDread (rg_cn r1) ⟨fun _ => no _ sc_rf, fun y => ?_⟩⟩))⟩)
    rw [r3] at y
    exact absurd q2 y
  · have ha := am_b_nz q
    have hbb := am_b_nz q2
    have ha4 : 0 ≤ a ∧ a < 4 ∧ a < dA D := by omega
    have hbD : 0 ≤ b ∧ b < dN D := by have := h.1.2.1.2.1; omega
    have h6 := h.1.2.1.1.1
    have h5 := h.1.2.2.2.2 a ha.1 (by omega)
    have hcc := h.1.1.1
    refine ⟨v4 ha4, h5.1.1.1, st_at h5.1.1 (st_keeps c3 (by omega) h5.1 (fun M1 k1 e1 e88 => ?_))⟩
    have fs : ∀ x j, 37 ≤ x → x ≤ 45 → M1 x j = M x j := fun x j y z => e1 x j (by omega)
    have s1 : sm_ok M1 D (37 + 1 + 2 * a) a (G a) (W a) := sm_ok_fr (fs _ _ (by omega) (by omega)) (fs _ _ (by omega) (by omega)) (fun j => fs _ _ (by omega) (by omega)) h5.1
    refine st_put s1.1 (by omega) (by omega) (am_c0_i ?_)
    have s2 := sm_put s1 hbD.2 ⟨q3, q4⟩
    have k2 : kc_ D a (G a) (W a) M (am_up M1 (37 + 1 + 2 * a + 1) b x) := kc_go c3 ha4 k1 (fun y j z z2 z3 z4 => am_up_el (by omega))
    have l2 : am_up M1 (37 + 1 + 2 * a + 1) b x 0 17 = M 0 17 := (am_up_el (by omega)).trans (e1 0 17 (by omega))
    generalize am_up M1 (37 + 1 + 2 * a + 1) b x = M2 at s2 k2 l2 ⊢
    obtain ⟨t1, t2, t3, t4, t5, t6, t7, t8, t9, t10⟩ := kc_bt h k2 ha4
    rw [if_pos ⟨by omega, by omega⟩, h5.1.2.2.2.1 b (by omega) (by omega)]
    refine ⟨t10, en_X12_set (bk_X12_set_0 (sp_isDreamer t3 ⟨fun y => ?_, fun _ => sp_isDread (rg_cn t1) ⟨fun y => ?_, fun _ => sp_isIn ⟨fun _ => ?_, fun y => ?_⟩⟩⟩))⟩
    · rw [t4] at y
      exact absurd ha (am_b_z.mp y)
    · rw [t5] at y
      exact absurd hbb (am_b_z.mp y)
    · refine sp_keepss (a := a) t7 t8 (fun M3 k3 f3 => ?_)
      have s3 : rs_ok M3 D a (G a) (W a) := rs_ok_fr (fun j => f3 186 j (by omega) (by omega)) t2
      refine sp_weightOf (v4 ha4) ⟨by omega, by omega⟩ ⟨⟨by omega, by omega⟩, ⟨by omega, by omega⟩, ⟨by omega, by omega⟩, ⟨by omega, by omega⟩, am_c0_i ⟨?_, ?_⟩⟩
      · exact (s3.2.2.1 b (by omega) (by omega)).symm
      · have s6 := rs_put (j := 7 * a + 1 + b) s3 hbD ⟨q3, q4⟩ rfl
        have k6 : kr_ a M2 (am_up M3 186 (7 * a + 1 + b) x) := kr_go k3 (fun x j y y2 y3 => am_up_el (by omega))
        refine at_done h ha4 k2 s2 k6 s6 (ac_lo (M1 := M) h ?_ ?_)
        · rw [am_up_el (by omega), f3 0 17 (by omega) (by omega), l2]
        · rw [am_up_el (by omega), f3 152 60 (by omega) (by omega), t9]
    · exact absurd ⟨q3, q4⟩ (am_b_z.mp y)
theorem ac_take {d n : Nat} {M : am_M} {D : dm_D} {G : Int → Int} {W : Int → Int → Int} {a b : Int} (hn : n < 600) (h : at_ok n M D G W) : tr_two (d + 7) 148 269 [(0, a), (0, b)] M (at_P n M D) := by
  have h3 := h.1.2.2.1
  have h4 := h.1.2.2.2.1
  obtain ⟨m, hh, c1, c2, c3, c4, c5⟩ := h.2.1
  obtain ⟨r1, r2, r3, r4, r5, r6, r7, r8⟩ := re_bt (k := 2) hn h (by decide)
  have r54 := r5 2 (by decide) (by decide)
  have no : ∀ M1, sc_fr (am_up M 151 2 (M 151 2 + 1)) M1 → am_r (M1 154 2 + 1) ∧ am_c0 sh_T (fun y M2 => (0 : Int) = y ∧ at_P n M D M2) (some (0, 0), sh_T, am_up M1 154 2 (M1 154 2 + 1)) := fun M1 k => by
    refine ⟨?_, am_c0_i ⟨rfl, at_re h (by decide) k⟩⟩
    rw [k 154 2 (by unfold sc_; omega), r4]
    exact ⟨by omega, by omega⟩
  refine en_X11_take (bk_X11_take_0 (st_isDreamer h.1 ⟨fun q => ?_, fun q => ?_⟩))
  · refine cl_re (mr := 0) (As := []) hn h (by decide) (am_c0_i ⟨r7, en_X12_take (bk_X12_take_0 (sp_isDreamer r2 ⟨fun _ => no _ sc_rf, fun y => ?_⟩))⟩)
    rw [r3] at y
    exact absurd q y
  · have ha := am_b_nz q
    have ha4 : 0 ≤ a ∧ a < 4 ∧ a < dA D := by omega
    have h5 := h.1.2.2.2.2 a ha.1 (by omega)
    have hcc := h.1.1.1
    have g1 : M (37 + 1 + 2 * a) 2 = G a := h5.1.2.2.1.1
    -- the guide is there, and is another one
    have yes : -1 ≤ b → b < M 174 5 → ¬ G a = b → am_cal pg (d + 6) 2 [(2, 46), (2, 37 + 1 + 2 * a)] sh_T M (am_cv sh_T fun M8 => am_c0 sh_T (fun x1 M1 => (∀ j, M1 2000003 j = M 2000003 j) ∧ am_cal pg (d + 7) 269 [(2, 152), (0, a), (0, b)] sh_T M1 (am_c0 sh_T fun y M2 => x1 = y ∧ at_P n M D M2)) (some (0, 1), sh_T, am_up M8 (37 + 1 + 2 * a) 2 b)) := fun z0 z1 z2 => by
      refine st_keeps c3 (by omega) h5.1 (fun M1 k1 e1 e88 => ?_)
      have fs : ∀ x j, 37 ≤ x → x ≤ 45 → M1 x j = M x j := fun x j y z => e1 x j (by omega)
      have s1 : sm_ok M1 D (37 + 1 + 2 * a) a (G a) (W a) := sm_ok_fr (fs _ _ (by omega) (by omega)) (fs _ _ (by omega) (by omega)) (fun j => fs _ _ (by omega) (by omega)) h5.1
      have s2 : sm_ok (am_up M1 (37 + 1 + 2 * a) 2 b) D (37 + 1 + 2 * a) a b (W a) := ⟨s1.1, ⟨(am_up_el (by omega)).trans s1.2.1.1, s1.2.1.2⟩, ⟨am_up_at, by omega, by omega⟩, fun k k0 k1 => (am_up_el (by omega)).trans (s1.2.2.2.1 k k0 k1), s1.2.2.2.2⟩
      have k2 : kc_ D a (G a) (W a) M (am_up M1 (37 + 1 + 2 * a) 2 b) := kc_go c3 ha4 k1 (fun y j z z2 z3 z4 => am_up_el (by omega))
      have l2 : am_up M1 (37 + 1 + 2 * a) 2 b 0 17 = M 0 17 := (am_up_el (by omega)).trans (e1 0 17 (by omega))
      generalize am_up M1 (37 + 1 + 2 * a) 2 b = M2 at s2 k2 l2 ⊢
      obtain ⟨t1, t2, t3, t4, t5, t6, t7, t8, t9, t10⟩ := kc_bt h k2 ha4
      refine am_c0_i ⟨t10, en_X12_take (bk_X12_take_0 (sp_isDreamer t3 ⟨fun y => ?_, fun _ => sp_guideMany ⟨by rw [t6]; exact ⟨by omega, by omega⟩, sp_isIn ⟨fun y => ?_, fun _ => sp_guideOf (v4 ha4) ⟨fun y => ?_, fun y => ?_⟩⟩⟩⟩))⟩
      · rw [t4] at y
        exact absurd ha (am_b_z.mp y)
      · rw [t6] at y
        exact absurd ⟨z0, by omega⟩ (am_b_z.mp y)
      · refine sp_keepss (a := a) t7 t8 (fun M3 k3 f3 => ⟨⟨by omega, by omega⟩, ⟨by omega, by omega⟩, am_c0_i ⟨rfl, ?_⟩⟩)
        have s3 : rs_ok M3 D a (G a) (W a) := rs_ok_fr (fun j => f3 186 j (by omega) (by omega)) t2
        have s6 : rs_ok (am_up M3 186 (7 * a) b) D a b (W a) := ⟨s3.1, ⟨am_up_at, by omega, by omega⟩, fun k k0 k1 => (am_up_el (by omega)).trans (s3.2.2.1 k k0 k1), s3.2.2.2⟩
        have k6 : kr_ a M2 (am_up M3 186 (7 * a) b) := kr_go k3 (fun x j y y2 y3 => am_up_el (by omega))
        refine at_done h ha4 k2 s2 k6 s6 (ac_lo (M1 := M) h ?_ ?_)
        · rw [am_up_el (by omega), f3 0 17 (by omega) (by omega), l2]
        · rw [am_up_el (by omega), f3 152 60 (by omega) (by omega), t9]
      · rw [t2.2.1.1] at y
        exact absurd y z2
    have nay : ¬ (-1 ≤ b ∧ b < M 174 5 ∧ ¬ G a = b) → am_cal pg (d + 6) 160 [(2, 0), (0, 2)] sh_T M (am_c0 sh_T fun x9 M9 => am_c0 sh_T (fun x1 M1 => (∀ j, M1 2000003 j = M 2000003 j) ∧ am_cal pg (d + 7) 269 [(2, 152), (0, a), (0, b)] sh_T M1 (am_c0 sh_T fun y M2 => x1 = y ∧ at_P n M D M2)) (some (0, 0), sh_T, M9)) := fun z => by
      refine cl_re (mr := 0) (As := []) hn h (by decide) (am_c0_i ⟨r7, en_X12_take (bk_X12_take_0 (sp_isDreamer r2 ⟨fun _ => no _ sc_rf, fun _ => sp_guideMany ⟨by rw [r3]; exact ⟨by omega, by omega⟩, sp_isIn ⟨fun _ => no _ sc_rf, fun y => sp_guideOf (v4 ha4) ⟨fun y2 => ?_, fun _ => no _ sc_rf⟩⟩⟩⟩))⟩)
      have y' := am_b_nz y
      rw [r3] at y'
      rw [r6, h5.2.2.1.1] at y2
      exact absurd ⟨y'.1, by omega, y2⟩ z
    refine ⟨fun y => ⟨v4 ha4, h5.1.1.1, ?_⟩, fun y => ⟨dr_ob hcc, st_isThere hcc (by decide) ?_⟩⟩
    · rw [g1]
      exact ⟨fun z => yes (by omega) (by omega) z, fun z => nay (fun z2 => z2.2.2 z)⟩
    · rw [h4.1.1]
      refine ⟨fun z => nay (fun z2 => am_b_z.mp z ⟨by omega, z2.2.1⟩), fun z => ⟨v4 ha4, h5.1.1.1, ?_⟩⟩
      have z' := am_b_nz z
      rw [g1]
      exact ⟨fun z => yes (by omega) (by omega) z, fun z => nay (fun z2 => z2.2.2 z)⟩
