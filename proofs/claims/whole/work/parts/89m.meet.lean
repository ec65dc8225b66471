/-! MEET, DAY, TAKE, SET -/
theorem am_b_t {b : Int} (hb : b = 0 ∨ b = 1) : ∃ rd : Bool, b = am_b (rd = true) := by
  rcases hb with rfl | rfl
  · exact ⟨false, rfl⟩
  · exact ⟨true, rfl⟩
theorem st_can {d : Nat} {M : am_M} {f : Int → am_M → Prop} {c v a g : Int} {D : dm_D} {w : Int → Int} {rd : Bool} (hd : dm_ok M c D) (hs : sm_ok M D v a g w) (h1 : (rd = true → 1 < dN D) → ¬ pu_home D w → f 1 M) (h0 : ¬ ((rd = true → 1 < dN D) ∧ ¬ pu_home D w) → f 0 M) : am_cal pg (d + 3) 33 [(2, c), (2, v), (0, am_b (rd = true))] sh_T M (am_c0 sh_T f) := by
  refine st_canEnter hd.1 hs.1 (sm_we hs) am_b_01 ?_
  have e : (am_b (rd = true) < M (c + 2) 0 ∧ ¬ pu_sum (M (v + 1)) 6 ≤ M c 5) ↔ ((rd = true → 1 < dN D) ∧ ¬ pu_home D w) := by
    rw [sm_sum hs, hd.2.2.2.1, hd.2.2.1]
    constructor
    · intro y
      refine ⟨fun z => ?_, y.2⟩
      have := y.1
      rw [am_b_1 z] at this
      omega
    · intro y
      refine ⟨?_, y.2⟩
      have := pu_away hd.2.1 hs.2.2.2.2 y.2
      cases rd with
      | false => rw [am_b_0 (by decide)]; omega
      | true => have := y.1 rfl; rw [am_b_1 rfl]; omega
  rw [am_b_eq e]
  by_cases y : (rd = true → 1 < dN D) ∧ ¬ pu_home D w
  · rw [am_b_1 y]; exact h1 y.1 y.2
  · rw [am_b_0 y]; exact h0 y
theorem st_dayed {d : Nat} {M : am_M} {f : am_M → Prop} {c v a g k : Int} {D : dm_D} {w : Int → Int} (hd : dm_ok M c D) (hs : sm_ok M D v a g w) (hk : 0 ≤ k ∧ k < dN D) (h : ∀ M', en_fr c v M M' → dm_ok M' c D → sm_ok M' D v a g (pu_up w k (pu_made (dO D 2) w 6 k (dB D a))) → f M') : am_cal pg (d + 5) 35 [(2, c), (2, v), (0, k)] sh_T M (am_cv sh_T f) := by
  have ha := hs.2.1
  have hb := hd.2.2.2.2.2.2.1 a ha.2.1 ha.2.2
  have hb9 := hd.2.1.2.2 a ha.2.1 ha.2.2
  have hn6 := hd.2.1.1
  have hcr := dm_range hd
  have hvr := hs.1.2.2.2.2
  have hk6 : 0 ≤ k ∧ k < 6 := by omega
  refine st_meetByDay hd.1 hs.1 (sm_we hs) hk6 (by omega) (by rw [ha.1, hb]; exact hb9) (dm_sum hd (by decide)) (fun M' hf hrow => h M' hf (dm_ok_fr (fun x j x1 x2 x3 x4 x5 x6 => hf x j x3 x4 x5 x6 (by omega)) hd) ⟨hs.1, ⟨?_, ha.2⟩, ⟨?_, hs.2.2.1.2⟩, fun j j0 j1 => ?_, pu_up_ok hs.2.2.2.2.1 (pu_made_le hs.2.2.2.2.1 hk6), pu_up_z hk.2 hs.2.2.2.2.2⟩)
  · rw [hf v 1 (by omega) (by omega) (by omega) (by omega) (by omega)]; exact ha.1
  · rw [hf v 2 (by omega) (by omega) (by omega) (by omega) (by omega)]; exact hs.2.2.1.1
  · rw [hrow j, ha.1, hb, pu_made_eq (by decide) hs.2.2.2.1 hk6]
    show (if j = k then _ else M (v + 1) j) = if j = k then _ else w j
    rw [hs.2.2.2.1 j j0 j1]
/-- between the class's act and the reference's: the reference as it was -/
theorem kc_ref {M M1 : am_M} {D : dm_D} {a g : Int} {w : Int → Int} (h : kc_ D a g w M M1) (hn : 0 ≤ M 46 1 ∧ M 46 1 < 20) (ha : 0 ≤ a ∧ a < 4 ∧ a < dA D) : ∀ x j, 149 ≤ x → ¬ sc_ x j → M1 x j = M x j := fun x j y z => h.2.2.2 x j z (by omega) (by omega) (by omega) (by omega) (by omega) (by omega)
theorem kr_pre {a : Int} {M M1 M2 : am_M} (hf : sc_fr M M1) (h : kr_ a M1 M2) : kr_ a M M2 := by
  obtain ⟨t, h0, h1, h2, h3, h4⟩ := h
  rw [hf 152 59 (by unfold sc_; omega)] at h0
  rw [hf 152 58 (by unfold sc_; omega)] at h2
  refine ⟨t, h0, h1, h2, fun j j0 j1 => ?_, fun x j y y2 y3 y4 => (h4 x j y y2 y3 y4).trans (hf x j y)⟩
  rw [h3 j j0 j1, hf 186 j (by unfold sc_; omega)]
theorem sp_nows {d : Nat} {M : am_M} {f : am_M → Prop} {a g : Int} {D : dm_D} {w w2 : Int → Int} (hs : rs_ok M D a g w) (hw : rw_ok M D 0 w2) (h : ∀ M', (∀ x j, ¬ (x = 186 ∧ 7 * a ≤ j ∧ j < 7 * a + 7) → M' x j = M x j) → rs_ok M' D a g w2 → f M') : am_cal pg (d + 1) 220 [(2, 152), (0, a), (0, 0)] sh_T M (am_cv sh_T f) := by
  have ha := hs.1
  refine sp_isNow (v4 ha) (by decide) (h _ (fun x j y => ?_) ⟨ha, ⟨?_, hs.2.1.2⟩, fun k k0 k1 => ?_, hw.2.2⟩)
  · by_cases e : x = 186
    · subst e
      rw [am_rs_out (by omega)]
    · rw [am_rs_el e]
  · rw [am_rs_out (by omega)]; exact hs.2.1.1
  · show am_rs M 186 (7 * a + 1) (ro M 0) 6 186 (7 * a + 1 + k) = w2 k
    rw [am_rs_at (by omega) (by omega), show 7 * a + 1 + k - (7 * a + 1) = k by omega]
    exact hw.2.1 k k0 k1
theorem rs_put {M : am_M} {D : dm_D} {a g k x j : Int} {w : Int → Int} (h : rs_ok M D a g w) (hk : 0 ≤ k ∧ k < dN D) (hx : 0 ≤ x ∧ x ≤ 999) (hj : j = 7 * a + 1 + k) : rs_ok (am_up M 186 j x) D a g (pu_up w k x) := by
  refine ⟨h.1, ⟨?_, h.2.1.2⟩, fun i i0 i1 => ?_, pu_up_ok h.2.2.2.1 hx, pu_up_z hk.2 h.2.2.2.2⟩
  · rw [am_up_el (by omega)]; exact h.2.1.1
  · show am_up M 186 j x 186 (7 * a + 1 + i) = if i = k then x else w i
    by_cases e : i = k
    · rw [if_pos e, hj, e, am_up_at]
    · rw [if_neg e, am_up_el (by omega)]; exact h.2.2.1 i i0 i1
/-- behind the class's act: what the reference's act finds -/
theorem kc_bt {M M1 : am_M} {n : Nat} {D : dm_D} {G : Int → Int} {W : Int → Int → Int} {a : Int} (h : at_ok n M D G W) (k : kc_ D a (G a) (W a) M M1) (ha : 0 ≤ a ∧ a < 4 ∧ a < dA D) : rg_is M1 D ∧ rs_ok M1 D a (G a) (W a) ∧ (0 ≤ M1 174 4 ∧ M1 174 4 ≤ 4) ∧ M1 174 4 = M 174 4 ∧ M1 174 3 = M 174 3 ∧ M1 174 5 = M 174 5 ∧ (0 ≤ M1 152 59 ∧ M1 152 59 < 20) ∧ (0 ≤ M1 152 58 ∧ M1 152 58 ≤ 20) ∧ M1 152 60 = M 152 60 ∧ (∀ j, M1 2000003 j = M 2000003 j) := by
  obtain ⟨b1, b2, b3, b4, b5⟩ := h.1
  obtain ⟨m, hh, c1, c2, c3, c4, c5⟩ := h.2.1
  have fr := kc_ref k c3 ha
  have e4 := fr 174 4 (by omega) (by unfold sc_; omega)
  have e59 := fr 152 59 (by omega) (by unfold sc_; omega)
  have e58 := fr 152 58 (by omega) (by unfold sc_; omega)
  exact ⟨rg_is_fr (fun x j x1 x2 => fr x j (by omega) (by unfold sc_; omega)) b2, rs_ok_fr (fun j => fr 186 j (by omega) (by unfold sc_; omega)) (b5 a ha.1 ha.2).2, by rw [e4]; exact b3.2, e4, fr 174 3 (by omega) (by unfold sc_; omega), fr 174 5 (by omega) (by unfold sc_; omega), by rw [e59]; exact c4, by rw [e58]; omega, fr 152 60 (by omega) (by unfold sc_; omega), fun j => fr 2000003 j (by omega) (by unfold sc_; omega)⟩
theorem en_kc {M M1 M2 : am_M} {D : dm_D} {a g c : Int} {w : Int → Int} (hn : 0 ≤ M 46 1 ∧ M 46 1 < 20) (ha : 0 ≤ a ∧ a < 4 ∧ a < dA D) (hc : dr_is c) (h : kc_ D a g w M M1) (k : en_fr c (37 + 1 + 2 * a) M1 M2) : kc_ D a g w M M2 := kc_go hn ha h (fun x j y y2 y3 y4 => by
  unfold sc_ at y
  rcases hc with rfl | rfl <;> exact k x j (by omega) (by omega) (by omega) (by omega) (by omega))
theorem ac_lo {n : Nat} {M M1 M2 : am_M} {D : dm_D} {G : Int → Int} {W : Int → Int → Int} (h : at_ok n M D G W) (e1 : M2 0 17 = M 0 17) (e2 : M2 152 60 = M 152 60) : M2 0 17 = M2 152 60 ∧ 0 ≤ M2 0 17 ∧ M2 0 17 ≤ 2147483647 := by
  rw [e1, e2]; exact h.2.2.2
/-- a refusal of the class, then the reference as it was -/
theorem cl_re {d n : Nat} {M : am_M} {D : dm_D} {G : Int → Int} {W : Int → Int → Int} {k : Int} {mr : Nat} {As : List am_V} (hn : n < 600) (h : at_ok n M D G W) (hk : 0 ≤ k ∧ k < 6) {F : Int → am_M → Prop} (hF : F (-1) (am_up M 151 k (M 151 k + 1))) : am_cal pg (d + 1) 160 [(2, 0), (0, k)] sh_T M (am_c0 sh_T F) := by
  have q := h.2.2.1 k hk.1 hk.2
  exact st_refuse hk (by omega) hF
/-- what the reference finds behind a refusal of the class -/
theorem re_bt {n : Nat} {M : am_M} {D : dm_D} {G : Int → Int} {W : Int → Int → Int} {k : Int} (hn : n < 600) (h : at_ok n M D G W) (hk : 0 ≤ k ∧ k < 6) : rg_is (am_up M 151 k (M 151 k + 1)) D ∧ (0 ≤ (am_up M 151 k (M 151 k + 1)) 174 4 ∧ (am_up M 151 k (M 151 k + 1)) 174 4 ≤ 4) ∧ (∀ j, (am_up M 151 k (M 151 k + 1)) 174 j = M 174 j) ∧ (∀ j, (am_up M 151 k (M 151 k + 1)) 154 j = M 154 j) ∧ (∀ i : Int, 0 ≤ i → i < 6 → 0 ≤ M 154 i ∧ M 154 i ≤ 1000000) ∧ (∀ j, (am_up M 151 k (M 151 k + 1)) 186 j = M 186 j) ∧ (∀ j, (am_up M 151 k (M 151 k + 1)) 2000003 j = M 2000003 j) ∧ (∀ j, (am_up M 151 k (M 151 k + 1)) 152 j = M 152 j) := by
  have e : ∀ j, am_up M 151 k (M 151 k + 1) 174 j = M 174 j := fun j => am_up_el (by omega)
  refine ⟨rg_is_fr (fun x j x1 x2 => am_up_el (by omega)) h.1.2.1, by rw [e]; exact h.1.2.2.1.2, e, fun j => am_up_el (by omega), fun i i0 i1 => ?_, fun j => am_up_el (by omega), fun j => am_up_el (by omega), fun j => am_up_el (by omega)⟩
  have := h.2.2.1 i i0 i1
  omega
theorem ac_meet {d n : Nat} {M : am_M} {D : dm_D} {G : Int → Int} {W : Int → Int → Int} {a b : Int} (hn : n < 600) (h : at_ok n M D G W) (hb : b = 0 ∨ b = 1) : tr_two (d + 7) 146 267 [(0, a), (0, b)] M (at_P n M D) := by
  obtain ⟨rd, rfl⟩ := am_b_t hb
  have h3 := h.1.2.2.1
  obtain ⟨m, hh, c1, c2, c3, c4, c5⟩ := h.2.1
  obtain ⟨r1, r2, r3, r4, r5, r6, r7, r8⟩ := re_bt (k := 2) hn h (by decide)
  have no : ∀ M1, sc_fr (am_up M 151 2 (M 151 2 + 1)) M1 → am_cal pg (d + 6) 266 [(2, 152)] sh_T M1 (am_c0 sh_T fun x M2 => am_c0 sh_T (fun y M2 => (-1 : Int) = y ∧ at_P n M D M2) (some (0, x), sh_T, M2)) := fun M1 k => by
    refine sp_refuses ?_ (am_c0_i ⟨rfl, at_re h (by decide) k⟩)
    rw [k 154 2 (by unfold sc_; omega), r4]; exact r5 2 (by decide) (by decide)
  refine en_X11_meet (bk_X11_meet_0 (st_isDreamer h.1 ⟨fun q => ?_, fun q => ?_⟩))
  · refine cl_re (mr := 0) (As := []) hn h (by decide) (am_c0_i ⟨r7, en_X12_meet (bk_X12_meet_0 (sp_isDreamer r2 ⟨fun _ => no _ sc_rf, fun y => ?_⟩))⟩)
    rw [r3] at y
    exact absurd q y
  · have ha := am_b_nz q
    have ha4 : 0 ≤ a ∧ a < 4 ∧ a < dA D := by omega
    have h5 := h.1.2.2.2.2 a ha.1 (by omega)
    have hcc := h.1.1.1
    refine ⟨v4 ha4, dr_ob hcc, st_can h.1.1 h5.1 (fun p1 p2 => ⟨fun _ => ?_, fun y => absurd y (by decide)⟩) (fun p1 => ⟨fun y => absurd rfl y, fun _ => ?_⟩)⟩
    · refine st_keeps c3 (by omega) h5.1 (fun M1 k1 e1 e88 => ?_)
      have eD : M1 0 4 = M 0 4 := e1 0 4 (by omega)
      have hcr := dm_range h.1.1
      have d1 : dm_ok M1 (M 0 4) D := dm_ok_fr (fun x j x1 x2 x3 x4 x5 x6 => e1 x j (by omega)) h.1.1
      have s1 : sm_ok M1 D (37 + 1 + 2 * a) a (G a) (W a) := by
        have f := k1.2.2.2
        have fs : ∀ x j, 37 ≤ x → x ≤ 45 → M1 x j = M x j := fun x j y z => e1 x j (by omega)
        exact sm_ok_fr (fs _ _ (by omega) (by omega)) (fs _ _ (by omega) (by omega)) (fun j => fs _ _ (by omega) (by omega)) h5.1
      rw [eD]
      refine ⟨dr_ob hcc, st_room d1 s1 p2 p1 (fun M2 f2 d2 s2 => am_c0_i ⟨?_, ?_⟩)⟩
      · intro j
        exact (kc_bt h (en_kc c3 ha4 hcc k1 f2) ha4).2.2.2.2.2.2.2.2.2 j
      · have k2 := en_kc c3 ha4 hcc k1 f2
        obtain ⟨t1, t2, t3, t4, t5, t6, t7, t8, t9, t10⟩ := kc_bt h k2 ha4
        have l2 : M2 0 17 = M 0 17 := (f2 0 17 (by omega) (by omega) (by omega) (by omega) (by omega)).trans (e1 0 17 (by omega))
        refine en_X12_meet (bk_X12_meet_0 (sp_isDreamer t3 ⟨fun y => ?_, fun _ => sp_canGo rfl t1 (fun _ => ⟨fun _ => ?_, fun y => absurd y (by decide)⟩) (fun y => absurd p1 y)⟩))
        · rw [t4] at y
          exact absurd ha (am_b_z.mp y)
        · refine sp_lays t1 t2 (fun M3 f3 g3 s3 w3 => sp_home g3 w3 ⟨fun _ => ?_, fun y => absurd (am_b_nz y) p2⟩)
          refine sp_keepss (a := a) (by rw [f3 152 59 (by unfold sc_; omega)]; exact t7) (by rw [f3 152 58 (by unfold sc_; omega)]; exact t8) (fun M4 k4 f4 => ?_)
          have g4 : rg_is M4 D := rg_is_fr (fun x j x1 x2 => f4 x j (by omega) (by omega)) g3
          have s4 : rs_ok M4 D a (G a) (W a) := rs_ok_fr (fun j => f4 186 j (by omega) (by omega)) s3
          have w4 : rw_ok M4 D 0 (W a) := rw_fr (fun k k0 k1 => f4 187 _ (by omega) (by omega)) w3
          have k4' := kr_pre f3 k4
          refine sp_guideOf (v4 ha4) ?_
          rw [s4.2.1.1]
          refine sp_room g4 w4 ha4 s4.2.1.2 p2 p1 (fun M5 f5 g5 w5 => ?_)
          have s5 : rs_ok M5 D a (G a) (W a) := rs_ok_fr (fun j => f5 186 j (by omega) (by omega) (by omega) (by omega)) s4
          refine sp_nows s5 w5 (fun M6 f6 s6 => am_c0_i ⟨rfl, ?_⟩)
          have k6 : kr_ a M2 M6 := kr_go k4' (fun x j y y2 y3 => by
            unfold sc_ at y
            exact (f6 x j y2).trans (f5 x j (by omega) (by omega) (by omega) (by omega)))
          refine at_done h ha4 k2 s2 k6 s6 (ac_lo (M1 := M) h ?_ ?_)
          · rw [f6 0 17 (by omega), f5 0 17 (by omega) (by omega) (by omega) (by omega), f4 0 17 (by omega) (by omega), f3 0 17 (by unfold sc_; omega), l2]
          · rw [f6 152 60 (by omega), f5 152 60 (by omega) (by omega) (by omega) (by omega), f4 152 60 (by omega) (by omega), f3 152 60 (by unfold sc_; omega), t9]
    · refine cl_re (mr := 0) (As := []) hn h (by decide) (am_c0_i ⟨r7, en_X12_meet (bk_X12_meet_0 (sp_isDreamer r2 ⟨fun _ => no _ sc_rf, fun _ => sp_canGo rfl r1 (fun y1 => ⟨fun _ => ?_, fun y => absurd y (by decide)⟩) (fun _ => ⟨fun y => absurd rfl y, fun _ => no _ sc_rf⟩)⟩))⟩)
      refine sp_lays r1 (rs_ok_fr r6 h5.2) (fun M3 f3 g3 s3 w3 => sp_home g3 w3 ⟨fun y => absurd ⟨y1, am_b_z.mp y⟩ p1, fun _ => no _ f3⟩)
